theorem hd_X10_down : yX10_down.cls ≠ "java/lang/invoke/MethodHandle" ∧ yX10_down.cls ≠ "java/lang/invoke/VarHandle" ∧ (parseMethodDescriptor yX10_down.desc).map (fun d => d.parameters.length) = some 2 := by decide +kernel
set_option maxHeartbeats 4000000 in
set_option maxRecDepth 100000 in
theorem c_X10_down (l : Launch) (D : va_G) (cI cZ : ClassId) (th0 : Nat) (th1 : Nat) (th2 : Nat) (th3 : Nat) (th4 : Nat) (th5 : Nat) (th6 : Nat) (th7 : Nat) (th8 : Nat) (th9 : Nat) (wheel1 : Nat) (wheel2 : Nat) (wheel3 : Nat) (wheel4 : Nat) (trial1 : Nat) (trial2 : Nat) (trial3 : Nat) (trial4 : Nat) (sz : Nat) (u_wheel : sW) (u_trial : sW) (p1 : Int32) (p2 : Int32) (z : Int32 × sW) (hf : f_X10_down u_wheel u_trial p1 p2 = some z) : Met l yX10_down wsX10_down rmX10_down (va_Pc [.ref th0, .int p1, .int p2] (wPr D cI cZ (ceX th0 th1 th2 th3 th4 th5 th6 th7 th8 th9 ++ (ceW cI cZ th1 wheel1 wheel2 wheel3 wheel4 u_wheel ++ (ceW cI cZ th2 trial1 trial2 trial3 trial4 u_trial))) sz)) (va_Qi (fun (r : Int32) (v : sW) => (r, v) = z) (fun (v : sW) t => wPo D cI cZ (va_A (ceX th0 th1 th2 th3 th4 th5 th6 th7 th8 th9 ++ (ceW cI cZ th1 wheel1 wheel2 wheel3 wheel4 u_wheel ++ (ceW cI cZ th2 trial1 trial2 trial3 trial4 u_trial))) sz) (ceX th0 th1 th2 th3 th4 th5 th6 th7 th8 th9 ++ (ceW cI cZ th1 wheel1 wheel2 wheel3 wheel4 u_wheel ++ (ceW cI cZ th2 trial1 trial2 trial3 trial4 v))) t) (va_A (ceX th0 th1 th2 th3 th4 th5 th6 th7 th8 th9 ++ (ceW cI cZ th1 wheel1 wheel2 wheel3 wheel4 u_wheel ++ (ceW cI cZ th2 trial1 trial2 trial3 trial4 u_trial))) sz)) 0 0 (va_A (ceX th0 th1 th2 th3 th4 th5 th6 th7 th8 th9 ++ (ceW cI cZ th1 wheel1 wheel2 wheel3 wheel4 u_wheel ++ (ceW cI cZ th2 trial1 trial2 trial3 trial4 u_trial))) sz) := by
  refine k_enter (D := D) (cI := cI) (cZ := cZ) (wl := ceX th0 th1 th2 th3 th4 th5 th6 th7 th8 th9 ++ (ceW cI cZ th1 wheel1 wheel2 wheel3 wheel4 u_wheel ++ (ceW cI cZ th2 trial1 trial2 trial3 trial4 u_trial))) (sz := sz) (av := [.ref th0, .int p1, .int p2]) (cc := cX10_down) (maxL := 5) (ret := (some .int)) (Qc := fun A => va_Qi (fun (r : Int32) (v : sW) => (r, v) = z) (fun (v : sW) t => wPo D cI cZ (A) (ceX th0 th1 th2 th3 th4 th5 th6 th7 th8 th9 ++ (ceW cI cZ th1 wheel1 wheel2 wheel3 wheel4 u_wheel ++ (ceW cI cZ th2 trial1 trial2 trial3 trial4 v))) t) (A)) (by decide) rfl (Nat.le_of_ble_eq_true rfl) ?_
  intro p e s m below meth c ls A Q H locs eQ hx hb hr hml hts hown hlocks hK hP hD hS hA hE hl
  have hown : s.vm.findClass RX10 = some m.cls := hown
  have hl : lv_has ls 5 [(0, .ref th0), (1, .int p1), (2, .int p2)] := hl
  have hi_X10 : ∀ w ∈ wsX100, w ∈ wsX10_down := fun w h => List.mem_cons_of_mem _ (List.mem_append_left _ (List.mem_append_right _ h))
  have hL70 : ∀ (n : Nat), ∀ (v1 : Int32) (v2 : Int32) (v3 : Int32) (u_trial : sW) (H : Heap) (locs : List Loc) (ls : Array Slot), lv_has ls 5 [(0, .ref th0), (1, .int v1), (2, .int v2), (3, .int v3)] → va_P D vwCl (ceX th0 th1 th2 th3 th4 th5 th6 th7 th8 th9 ++ (ceW cI cZ th1 wheel1 wheel2 wheel3 wheel4 u_wheel ++ (ceW cI cZ th2 trial1 trial2 trial3 trial4 u_trial))) H → va_D A (ceX th0 th1 th2 th3 th4 th5 th6 th7 th8 th9 ++ (ceW cI cZ th1 wheel1 wheel2 wheel3 wheel4 u_wheel ++ (ceW cI cZ th2 trial1 trial2 trial3 trial4 u_trial))) → va_S A s.heap H locs → f_X10_down_L70 u_wheel n v1 v2 v3 u_trial = some z → W p l e (headSpec wsX10_down rmX10_down).room s m ([.ref th0, .int p1, .int p2] : List Value).toArray below meth c H locs 0 0 Q (F0 m 70 ls []) := by
    intro n
    induction n with
    | zero =>
      intro v1 v2 v3 u_trial H locs ls hl hP hD hS hf
      exact absurd (show (none : Option (Int32 × sW)) = some z from hf) (fun h => by cases h)
    | succ n ih =>
      intro v1 v2 v3 u_trial H locs ls hl hP hD hS hf
      rw [f_X10_down_L70] at hf
      refine lv_iload_n hx hb dX10_down_70 rfl (lv_at hl 3 rfl) ?_
      refine lv_iconst (v := 3) hx hb dX10_down_71 (by decide) ?_
      refine lv_icmp_gt (tgt := 115) hx hb dX10_down_72 (by decide) (fun c10 => ?_) (fun c10 => ?_)
      · have hf := (if_pos c10).symm.trans hf
        refine lv_bipush (v := -6) hx hb dX10_down_115 (by decide) ?_
        exact k_iret (v := (-6 : Int32)) (u := u_trial) hx hb hr hlocks hK hS eQ hf hP hD dX10_down_117
      · have hf := (if_neg c10).symm.trans hf
        refine lv_aload_n hx hb dX10_down_75 rfl (lv_at hl 0 rfl) ?_
        refine va_get (D := D) (ci := 7) (v := .ref th2) (C := RX10) (T := TX10) (N := 9) hx hb hts hi_X10 hown hK hP 0 rfl rfl 1 (by decide) (hts (.fieldLink RX10 16 "FairWheel" "trial" "LFairWheel$Wheel;") (List.mem_of_getElem? (i := 2) rfl)) (fun _ h9 => h9) rfl dX10_down_76 ?_
        refine lv_iload_n hx hb dX10_down_79 rfl (lv_at hl 1 rfl) ?_
        refine lv_iload_n hx hb dX10_down_80 rfl (lv_at hl 3 rfl) ?_
        obtain ⟨z11, hz_z11, hf⟩ := o_bind hf
        refine k_calli (va_runS (As := [.ref th2, .int v1, .int v3]) (rest := []) ⟨hx, hb, hml, hown, hts⟩ (c_X3_first l D cI cZ th2 trial1 trial2 trial3 trial4 H.size u_trial v1 v3 z11 hz_z11) (va_cwS 3 hts gX10_down_X3_first rfl rfl rfl hd_X3_first ⟨Nat.le_of_ble_eq_true rfl, Nat.le_of_ble_eq_true rfl⟩) (k_preS hK hP hD hS hA hE [6, 7, 8, 9, 10] (by decide) rfl) rfl rfl hl.1 rfl (lv_room (Nat.le_of_ble_eq_true rfl)) dX10_down_81 ⟨Nat.zero_le _, Nat.zero_le _⟩) hP hD hS hA [6, 7, 8, 9, 10] [none, none, none, none, none, none, some 0, some 1, some 2, some 3, some 4] 5 rfl (by decide) (by decide) rfl rfl (fun H locs hP hD hS => ?_)
        have hP : va_P D vwCl (ceX th0 th1 th2 th3 th4 th5 th6 th7 th8 th9 ++ (ceW cI cZ th1 wheel1 wheel2 wheel3 wheel4 u_wheel ++ (ceW cI cZ th2 trial1 trial2 trial3 trial4 z11.2))) H := hP
        have hD : va_D A (ceX th0 th1 th2 th3 th4 th5 th6 th7 th8 th9 ++ (ceW cI cZ th1 wheel1 wheel2 wheel3 wheel4 u_wheel ++ (ceW cI cZ th2 trial1 trial2 trial3 trial4 z11.2))) := hD
        refine lv_istore (lv' := [(4, .int z11.1), (0, .ref th0), (1, .int v1), (2, .int v2), (3, .int v3)]) hx hb dX10_down_84 hl (by decide) rfl (fun ls hl => ?_)
        refine lv_iload hx hb dX10_down_86 (lv_at hl 0 rfl) ?_
        refine lv_bipush (v := -6) hx hb dX10_down_88 (by decide) ?_
        refine lv_icmp_eq (tgt := 109) hx hb dX10_down_90 (by decide) (fun c12 => ?_) (fun c12 => ?_)
        · have hf := (if_pos c12).symm.trans hf
          refine lv_iinc (v := (v3 + (1 : Int32))) (lv' := [(3, .int (v3 + (1 : Int32))), (4, .int z11.1), (0, .ref th0), (1, .int v1), (2, .int v2)]) hx hb dX10_down_109 hl (k := 4) rfl rfl (by decide) rfl (fun ls hl => ?_)
          refine lv_goto (tgt := 70) hx hb dX10_down_112 (by decide) ?_
          exact ih v1 v2 (v3 + (1 : Int32)) z11.2 _ _ ls (lv_sub hl [2, 3, 4, 0] rfl) hP hD hS hf
        · have hf := (if_neg c12).symm.trans hf
          refine lv_iload_n hx hb dX10_down_93 rfl (lv_at hl 3 rfl) ?_
          refine lv_if_ne (tgt := 101) hx hb dX10_down_94 (by decide) (fun c13 => ?_) (fun c13 => ?_)
          · have hf := (if_neg c13).symm.trans hf
            refine lv_aload_n hx hb dX10_down_101 rfl (lv_at hl 1 rfl) ?_
            refine lv_iload hx hb dX10_down_102 (lv_at hl 0 rfl) ?_
            refine lv_iload_n hx hb dX10_down_104 rfl (lv_at hl 3 rfl) ?_
            obtain ⟨z14, hz_z14, hf⟩ := o_bind hf
            refine k_calli (va_runV (As := [.int z11.1, .int v2]) (rest := []) ⟨hx, hb, hml, hown, hts⟩ (c_X10_tellMove l D cI cZ th0 th1 th2 th3 th4 th5 th6 th7 th8 th9 wheel1 wheel2 wheel3 wheel4 H.size u_wheel z11.1 v2 z14 hz_z14) (cwV 2 hts gX10_down_X10_tellMove rfl rfl rfl ⟨rfl, hd_X10_tellMove⟩ ⟨Nat.le_of_ble_eq_true rfl, Nat.le_of_ble_eq_true rfl⟩) (k_preV hK hP hD hS hA hE [0, 1, 2, 3, 4, 5] (by decide) rfl (ci := 7) rfl rfl) rfl rfl hl.1 rfl (lv_room (Nat.le_of_ble_eq_true rfl)) dX10_down_105 ⟨Nat.zero_le _, Nat.zero_le _⟩) hP hD hS hA [0, 1, 2, 3, 4, 5] [some 0, some 1, some 2, some 3, some 4, some 5, none, none, none, none, none] 6 rfl (by decide) (by decide) rfl rfl (fun H locs hP hD hS => ?_)
            have hP : va_P D vwCl (ceX th0 th1 th2 th3 th4 th5 th6 th7 th8 th9 ++ (ceW cI cZ th1 wheel1 wheel2 wheel3 wheel4 u_wheel ++ (ceW cI cZ th2 trial1 trial2 trial3 trial4 z11.2))) H := hP
            have hD : va_D A (ceX th0 th1 th2 th3 th4 th5 th6 th7 th8 th9 ++ (ceW cI cZ th1 wheel1 wheel2 wheel3 wheel4 u_wheel ++ (ceW cI cZ th2 trial1 trial2 trial3 trial4 z11.2))) := hD
            exact k_iret (v := z14.1) (u := z11.2) hx hb hr hlocks hK hS eQ hf hP hD dX10_down_108
          · have hf := (if_pos c13).symm.trans hf
            refine lv_iload_n hx hb dX10_down_97 rfl (lv_at hl 4 rfl) ?_
            refine lv_goto (tgt := 108) hx hb dX10_down_98 (by decide) ?_
            exact k_iret (v := v3) (u := z11.2) hx hb hr hlocks hK hS eQ hf hP hD dX10_down_108
  rw [f_X10_down] at hf
  refine lv_iload_n hx hb dX10_down_0 rfl (lv_at hl 1 rfl) ?_
  obtain ⟨z1, hz_z1, hf⟩ := o_bind hf
  refine k_calli (va_runS (As := [.int p1]) (rest := []) ⟨hx, hb, hml, hown, hts⟩ (c_X10_isPerson l D cI cZ  H.size p1 z1 hz_z1) (va_cwS 1 hts gX10_down_X10_isPerson rfl rfl rfl hd_X10_isPerson ⟨Nat.le_of_ble_eq_true rfl, Nat.le_of_ble_eq_true rfl⟩) (k_preS hK hP hD hS hA hE [] (by decide) rfl) rfl rfl hl.1 rfl (lv_room (Nat.le_of_ble_eq_true rfl)) dX10_down_1 ⟨Nat.zero_le _, Nat.zero_le _⟩) hP hD hS hA [] [none, none, none, none, none, none, none, none, none, none, none] 0 rfl (by decide) (by decide) rfl rfl (fun H locs hP hD hS => ?_)
  have hP : va_P D vwCl (ceX th0 th1 th2 th3 th4 th5 th6 th7 th8 th9 ++ (ceW cI cZ th1 wheel1 wheel2 wheel3 wheel4 u_wheel ++ (ceW cI cZ th2 trial1 trial2 trial3 trial4 u_trial))) H := hP
  have hD : va_D A (ceX th0 th1 th2 th3 th4 th5 th6 th7 th8 th9 ++ (ceW cI cZ th1 wheel1 wheel2 wheel3 wheel4 u_wheel ++ (ceW cI cZ th2 trial1 trial2 trial3 trial4 u_trial))) := hD
  refine lv_if_ne (tgt := 9) hx hb dX10_down_4 (by decide) (fun c2 => ?_) (fun c2 => ?_)
  · have hf := (if_neg c2).symm.trans hf
    refine lv_iload_n hx hb dX10_down_9 rfl (lv_at hl 2 rfl) ?_
    refine lv_if_lt (tgt := 18) hx hb dX10_down_10 (by decide) (fun c3 => ?_) (fun c3 => ?_)
    · have hf := (if_pos c3).symm.trans hf
      refine lv_bipush (v := -2) hx hb dX10_down_18 (by decide) ?_
      exact k_iret (v := (-2 : Int32)) (u := u_trial) hx hb hr hlocks hK hS eQ hf hP hD dX10_down_20
    · have hf := (if_neg c3).symm.trans hf
      refine lv_iload_n hx hb dX10_down_13 rfl (lv_at hl 2 rfl) ?_
      refine lv_iconst (v := 2) hx hb dX10_down_14 (by decide) ?_
      refine lv_icmp_le (tgt := 21) hx hb dX10_down_15 (by decide) (fun c4 => ?_) (fun c4 => ?_)
      · have hf := (if_pos c4).symm.trans hf
        refine lv_aload_n hx hb dX10_down_21 rfl (lv_at hl 0 rfl) ?_
        refine va_get (D := D) (ci := 7) (v := .ref th1) (C := RX10) (T := TX10) (N := 9) hx hb hts hi_X10 hown hK hP 0 rfl rfl 0 (by decide) (hts (.fieldLink RX10 10 "FairWheel" "wheel" "LFairWheel$Wheel;") (List.mem_of_getElem? (i := 1) rfl)) (fun _ h9 => h9) rfl dX10_down_22 ?_
        refine lv_iload_n hx hb dX10_down_25 rfl (lv_at hl 1 rfl) ?_
        obtain ⟨z5, hz_z5, hf⟩ := o_bind hf
        refine k_calli (va_runV (As := [.int p1]) (rest := []) ⟨hx, hb, hml, hown, hts⟩ (c_X9_isAboard l D cI cZ th1 wheel1 wheel2 wheel3 wheel4 H.size u_wheel p1 z5 hz_z5) (cwV 1 hts gX10_down_X9_isAboard rfl rfl rfl ⟨rfl, hd_X9_isAboard⟩ ⟨Nat.le_of_ble_eq_true rfl, Nat.le_of_ble_eq_true rfl⟩) (k_preV hK hP hD hS hA hE [1, 2, 3, 4, 5] (by decide) rfl (ci := 6) rfl rfl) rfl rfl hl.1 rfl (lv_room (Nat.le_of_ble_eq_true rfl)) dX10_down_26 ⟨Nat.zero_le _, Nat.zero_le _⟩) hP hD hS hA [1, 2, 3, 4, 5] [none, some 0, some 1, some 2, some 3, some 4, none, none, none, none, none] 5 rfl (by decide) (by decide) rfl rfl (fun H locs hP hD hS => ?_)
        have hP : va_P D vwCl (ceX th0 th1 th2 th3 th4 th5 th6 th7 th8 th9 ++ (ceW cI cZ th1 wheel1 wheel2 wheel3 wheel4 u_wheel ++ (ceW cI cZ th2 trial1 trial2 trial3 trial4 u_trial))) H := hP
        have hD : va_D A (ceX th0 th1 th2 th3 th4 th5 th6 th7 th8 th9 ++ (ceW cI cZ th1 wheel1 wheel2 wheel3 wheel4 u_wheel ++ (ceW cI cZ th2 trial1 trial2 trial3 trial4 u_trial))) := hD
        refine lv_if_ne (tgt := 35) hx hb dX10_down_29 (by decide) (fun c6 => ?_) (fun c6 => ?_)
        · have hf := (if_neg c6).symm.trans hf
          refine lv_aload_n hx hb dX10_down_35 rfl (lv_at hl 0 rfl) ?_
          refine va_get (D := D) (ci := 7) (v := .ref th1) (C := RX10) (T := TX10) (N := 9) hx hb hts hi_X10 hown hK hP 0 rfl rfl 0 (by decide) (hts (.fieldLink RX10 10 "FairWheel" "wheel" "LFairWheel$Wheel;") (List.mem_of_getElem? (i := 1) rfl)) (fun _ h9 => h9) rfl dX10_down_36 ?_
          refine lv_iload_n hx hb dX10_down_39 rfl (lv_at hl 1 rfl) ?_
          obtain ⟨z7, hz_z7, hf⟩ := o_bind hf
          refine k_calli (va_runV (As := [.int p1]) (rest := []) ⟨hx, hb, hml, hown, hts⟩ (c_X9_isLowest l D cI cZ th1 wheel1 wheel2 wheel3 wheel4 H.size u_wheel p1 z7 hz_z7) (cwV 1 hts gX10_down_X9_isLowest rfl rfl rfl ⟨rfl, hd_X9_isLowest⟩ ⟨Nat.le_of_ble_eq_true rfl, Nat.le_of_ble_eq_true rfl⟩) (k_preV hK hP hD hS hA hE [1, 2, 3, 4, 5] (by decide) rfl (ci := 6) rfl rfl) rfl rfl hl.1 rfl (lv_room (Nat.le_of_ble_eq_true rfl)) dX10_down_40 ⟨Nat.zero_le _, Nat.zero_le _⟩) hP hD hS hA [1, 2, 3, 4, 5] [none, some 0, some 1, some 2, some 3, some 4, none, none, none, none, none] 5 rfl (by decide) (by decide) rfl rfl (fun H locs hP hD hS => ?_)
          have hP : va_P D vwCl (ceX th0 th1 th2 th3 th4 th5 th6 th7 th8 th9 ++ (ceW cI cZ th1 wheel1 wheel2 wheel3 wheel4 u_wheel ++ (ceW cI cZ th2 trial1 trial2 trial3 trial4 u_trial))) H := hP
          have hD : va_D A (ceX th0 th1 th2 th3 th4 th5 th6 th7 th8 th9 ++ (ceW cI cZ th1 wheel1 wheel2 wheel3 wheel4 u_wheel ++ (ceW cI cZ th2 trial1 trial2 trial3 trial4 u_trial))) := hD
          refine lv_if_eq (tgt := 57) hx hb dX10_down_43 (by decide) (fun c8 => ?_) (fun c8 => ?_)
          · have hf := (if_pos c8).symm.trans hf
            refine lv_aload_n hx hb dX10_down_57 rfl (lv_at hl 0 rfl) ?_
            refine va_get (D := D) (ci := 7) (v := .ref th2) (C := RX10) (T := TX10) (N := 9) hx hb hts hi_X10 hown hK hP 0 rfl rfl 1 (by decide) (hts (.fieldLink RX10 16 "FairWheel" "trial" "LFairWheel$Wheel;") (List.mem_of_getElem? (i := 2) rfl)) (fun _ h9 => h9) rfl dX10_down_58 ?_
            refine lv_aload_n hx hb dX10_down_61 rfl (lv_at hl 0 rfl) ?_
            refine va_get (D := D) (ci := 7) (v := .ref th1) (C := RX10) (T := TX10) (N := 9) hx hb hts hi_X10 hown hK hP 0 rfl rfl 0 (by decide) (hts (.fieldLink RX10 10 "FairWheel" "wheel" "LFairWheel$Wheel;") (List.mem_of_getElem? (i := 1) rfl)) (fun _ h9 => h9) rfl dX10_down_62 ?_
            obtain ⟨z9, hz_z9, hf⟩ := o_bind hf
            refine k_callv (va_runV (As := [.ref th1]) (rest := []) ⟨hx, hb, hml, hown, hts⟩ (c_X9_copyFrom l D cI cZ th2 trial1 trial2 trial3 trial4 th1 wheel1 wheel2 wheel3 wheel4 H.size u_trial u_wheel z9 hz_z9) (cwV 1 hts gX10_down_X9_copyFrom rfl rfl rfl ⟨rfl, hd_X9_copyFrom⟩ ⟨Nat.le_of_ble_eq_true rfl, Nat.le_of_ble_eq_true rfl⟩) (k_preV hK hP hD hS hA hE [6, 7, 8, 9, 10, 1, 2, 3, 4, 5] (by decide) rfl (ci := 6) rfl rfl) rfl rfl hl.1 rfl (lv_room (Nat.le_of_ble_eq_true rfl)) dX10_down_65 ⟨Nat.zero_le _, Nat.zero_le _⟩) hP hD hS hA [6, 7, 8, 9, 10, 1, 2, 3, 4, 5] [none, some 5, some 6, some 7, some 8, some 9, some 0, some 1, some 2, some 3, some 4] 10 rfl (by decide) (by decide) rfl rfl (fun H locs hP hD hS => ?_)
            have hP : va_P D vwCl (ceX th0 th1 th2 th3 th4 th5 th6 th7 th8 th9 ++ (ceW cI cZ th1 wheel1 wheel2 wheel3 wheel4 u_wheel ++ (ceW cI cZ th2 trial1 trial2 trial3 trial4 z9))) H := hP
            have hD : va_D A (ceX th0 th1 th2 th3 th4 th5 th6 th7 th8 th9 ++ (ceW cI cZ th1 wheel1 wheel2 wheel3 wheel4 u_wheel ++ (ceW cI cZ th2 trial1 trial2 trial3 trial4 z9))) := hD
            refine lv_iconst (v := 1) hx hb dX10_down_68 (by decide) ?_
            refine lv_istore_n (lv' := [(3, .int (1 : Int32)), (0, .ref th0), (1, .int p1), (2, .int p2)]) hx hb dX10_down_69 rfl hl (by decide) rfl (fun ls hl => ?_)
            exact hL70 oF p1 p2 (1 : Int32) z9 _ _ ls (lv_sub hl [1, 2, 3, 0] rfl) hP hD hS hf
          · have hf := (if_neg c8).symm.trans hf
            refine lv_iload_n hx hb dX10_down_46 rfl (lv_at hl 2 rfl) ?_
            refine lv_if_ne (tgt := 54) hx hb dX10_down_47 (by decide) (fun c15 => ?_) (fun c15 => ?_)
            · have hf := (if_neg c15).symm.trans hf
              refine lv_bipush (v := -6) hx hb dX10_down_54 (by decide) ?_
              exact k_iret (v := (-6 : Int32)) (u := u_trial) hx hb hr hlocks hK hS eQ hf hP hD dX10_down_56
            · have hf := (if_pos c15).symm.trans hf
              refine lv_iconst (v := 0) hx hb dX10_down_50 (by decide) ?_
              refine lv_goto (tgt := 56) hx hb dX10_down_51 (by decide) ?_
              exact k_iret (v := (0 : Int32)) (u := u_trial) hx hb hr hlocks hK hS eQ hf hP hD dX10_down_56
        · have hf := (if_pos c6).symm.trans hf
          refine lv_bipush (v := -3) hx hb dX10_down_32 (by decide) ?_
          exact k_iret (v := (-3 : Int32)) (u := u_trial) hx hb hr hlocks hK hS eQ hf hP hD dX10_down_34
      · have hf := (if_neg c4).symm.trans hf
        refine lv_bipush (v := -2) hx hb dX10_down_18 (by decide) ?_
        exact k_iret (v := (-2 : Int32)) (u := u_trial) hx hb hr hlocks hK hS eQ hf hP hD dX10_down_20
  · have hf := (if_pos c2).symm.trans hf
    refine lv_iconst (v := -1) hx hb dX10_down_7 (by decide) ?_
    exact k_iret (v := (-1 : Int32)) (u := u_trial) hx hb hr hlocks hK hS eQ hf hP hD dX10_down_8
theorem hd_X10_pebbles : yX10_pebbles.cls ≠ "java/lang/invoke/MethodHandle" ∧ yX10_pebbles.cls ≠ "java/lang/invoke/VarHandle" ∧ (parseMethodDescriptor yX10_pebbles.desc).map (fun d => d.parameters.length) = some 1 := by decide +kernel
set_option maxHeartbeats 4000000 in
set_option maxRecDepth 100000 in
theorem c_X10_pebbles (l : Launch) (D : va_G) (cI cZ : ClassId) (th0 : Nat) (th1 : Nat) (th2 : Nat) (th3 : Nat) (th4 : Nat) (th5 : Nat) (th6 : Nat) (th7 : Nat) (th8 : Nat) (th9 : Nat) (wheel1 : Nat) (wheel2 : Nat) (wheel3 : Nat) (wheel4 : Nat) (trial1 : Nat) (trial2 : Nat) (trial3 : Nat) (trial4 : Nat) (sz : Nat) (u_wheel : sW) (u_trial : sW) (p1 : Int32) (z : Int32 × sW) (hf : f_X10_pebbles u_wheel u_trial p1 = some z) : Met l yX10_pebbles wsX10_pebbles rmX10_pebbles (va_Pc [.ref th0, .int p1] (wPr D cI cZ (ceX th0 th1 th2 th3 th4 th5 th6 th7 th8 th9 ++ (ceW cI cZ th1 wheel1 wheel2 wheel3 wheel4 u_wheel ++ (ceW cI cZ th2 trial1 trial2 trial3 trial4 u_trial))) sz)) (va_Qi (fun (r : Int32) (v : sW) => (r, v) = z) (fun (v : sW) t => wPo D cI cZ (va_A (ceX th0 th1 th2 th3 th4 th5 th6 th7 th8 th9 ++ (ceW cI cZ th1 wheel1 wheel2 wheel3 wheel4 u_wheel ++ (ceW cI cZ th2 trial1 trial2 trial3 trial4 u_trial))) sz) (ceX th0 th1 th2 th3 th4 th5 th6 th7 th8 th9 ++ (ceW cI cZ th1 wheel1 wheel2 wheel3 wheel4 u_wheel ++ (ceW cI cZ th2 trial1 trial2 trial3 trial4 v))) t) (va_A (ceX th0 th1 th2 th3 th4 th5 th6 th7 th8 th9 ++ (ceW cI cZ th1 wheel1 wheel2 wheel3 wheel4 u_wheel ++ (ceW cI cZ th2 trial1 trial2 trial3 trial4 u_trial))) sz)) 0 0 (va_A (ceX th0 th1 th2 th3 th4 th5 th6 th7 th8 th9 ++ (ceW cI cZ th1 wheel1 wheel2 wheel3 wheel4 u_wheel ++ (ceW cI cZ th2 trial1 trial2 trial3 trial4 u_trial))) sz) := by
  refine k_enter (D := D) (cI := cI) (cZ := cZ) (wl := ceX th0 th1 th2 th3 th4 th5 th6 th7 th8 th9 ++ (ceW cI cZ th1 wheel1 wheel2 wheel3 wheel4 u_wheel ++ (ceW cI cZ th2 trial1 trial2 trial3 trial4 u_trial))) (sz := sz) (av := [.ref th0, .int p1]) (cc := cX10_pebbles) (maxL := 3) (ret := (some .int)) (Qc := fun A => va_Qi (fun (r : Int32) (v : sW) => (r, v) = z) (fun (v : sW) t => wPo D cI cZ (A) (ceX th0 th1 th2 th3 th4 th5 th6 th7 th8 th9 ++ (ceW cI cZ th1 wheel1 wheel2 wheel3 wheel4 u_wheel ++ (ceW cI cZ th2 trial1 trial2 trial3 trial4 v))) t) (A)) (by decide) rfl (Nat.le_of_ble_eq_true rfl) ?_
  intro p e s m below meth c ls A Q H locs eQ hx hb hr hml hts hown hlocks hK hP hD hS hA hE hl
  have hown : s.vm.findClass RX10 = some m.cls := hown
  have hl : lv_has ls 3 [(0, .ref th0), (1, .int p1)] := hl
  have hi_X10 : ∀ w ∈ wsX100, w ∈ wsX10_pebbles := fun w h => List.mem_cons_of_mem _ (List.mem_append_left _ (List.mem_append_right _ h))
  have hL25 : ∀ (n : Nat), ∀ (v1 : Int32) (v2 : Int32) (u_trial : sW) (H : Heap) (locs : List Loc) (ls : Array Slot), lv_has ls 3 [(0, .ref th0), (1, .int v1), (2, .int v2)] → va_P D vwCl (ceX th0 th1 th2 th3 th4 th5 th6 th7 th8 th9 ++ (ceW cI cZ th1 wheel1 wheel2 wheel3 wheel4 u_wheel ++ (ceW cI cZ th2 trial1 trial2 trial3 trial4 u_trial))) H → va_D A (ceX th0 th1 th2 th3 th4 th5 th6 th7 th8 th9 ++ (ceW cI cZ th1 wheel1 wheel2 wheel3 wheel4 u_wheel ++ (ceW cI cZ th2 trial1 trial2 trial3 trial4 u_trial))) → va_S A s.heap H locs → f_X10_pebbles_L25 u_wheel n v1 v2 u_trial = some z → W p l e (headSpec wsX10_pebbles rmX10_pebbles).room s m ([.ref th0, .int p1] : List Value).toArray below meth c H locs 0 0 Q (F0 m 25 ls []) := by
    intro n
    induction n with
    | zero =>
      intro v1 v2 u_trial H locs ls hl hP hD hS hf
      exact absurd (show (none : Option (Int32 × sW)) = some z from hf) (fun h => by cases h)
    | succ n ih =>
      intro v1 v2 u_trial H locs ls hl hP hD hS hf
      rw [f_X10_pebbles_L25] at hf
      refine lv_iload_n hx hb dX10_pebbles_25 rfl (lv_at hl 2 rfl) ?_
      refine lv_bipush (v := 99) hx hb dX10_pebbles_26 (by decide) ?_
      refine lv_icmp_gt (tgt := 84) hx hb dX10_pebbles_28 (by decide) (fun c5 => ?_) (fun c5 => ?_)
      · have hf := (if_pos c5).symm.trans hf
        refine lv_bipush (v := -6) hx hb dX10_pebbles_84 (by decide) ?_
        exact k_iret (v := (-6 : Int32)) (u := u_trial) hx hb hr hlocks hK hS eQ hf hP hD dX10_pebbles_86
      · have hf := (if_neg c5).symm.trans hf
        refine lv_aload_n hx hb dX10_pebbles_31 rfl (lv_at hl 0 rfl) ?_
        refine va_get (D := D) (ci := 7) (v := .ref th2) (C := RX10) (T := TX10) (N := 9) hx hb hts hi_X10 hown hK hP 0 rfl rfl 1 (by decide) (hts (.fieldLink RX10 16 "FairWheel" "trial" "LFairWheel$Wheel;") (List.mem_of_getElem? (i := 2) rfl)) (fun _ h9 => h9) rfl dX10_pebbles_32 ?_
        refine lv_aload_n hx hb dX10_pebbles_35 rfl (lv_at hl 0 rfl) ?_
        refine va_get (D := D) (ci := 7) (v := .ref th1) (C := RX10) (T := TX10) (N := 9) hx hb hts hi_X10 hown hK hP 0 rfl rfl 0 (by decide) (hts (.fieldLink RX10 10 "FairWheel" "wheel" "LFairWheel$Wheel;") (List.mem_of_getElem? (i := 1) rfl)) (fun _ h9 => h9) rfl dX10_pebbles_36 ?_
        obtain ⟨z6, hz_z6, hf⟩ := o_bind hf
        refine k_callv (va_runV (As := [.ref th1]) (rest := []) ⟨hx, hb, hml, hown, hts⟩ (c_X9_copyFrom l D cI cZ th2 trial1 trial2 trial3 trial4 th1 wheel1 wheel2 wheel3 wheel4 H.size u_trial u_wheel z6 hz_z6) (cwV 1 hts gX10_pebbles_X9_copyFrom rfl rfl rfl ⟨rfl, hd_X9_copyFrom⟩ ⟨Nat.le_of_ble_eq_true rfl, Nat.le_of_ble_eq_true rfl⟩) (k_preV hK hP hD hS hA hE [6, 7, 8, 9, 10, 1, 2, 3, 4, 5] (by decide) rfl (ci := 6) rfl rfl) rfl rfl hl.1 rfl (lv_room (Nat.le_of_ble_eq_true rfl)) dX10_pebbles_39 ⟨Nat.zero_le _, Nat.zero_le _⟩) hP hD hS hA [6, 7, 8, 9, 10, 1, 2, 3, 4, 5] [none, some 5, some 6, some 7, some 8, some 9, some 0, some 1, some 2, some 3, some 4] 10 rfl (by decide) (by decide) rfl rfl (fun H locs hP hD hS => ?_)
        have hP : va_P D vwCl (ceX th0 th1 th2 th3 th4 th5 th6 th7 th8 th9 ++ (ceW cI cZ th1 wheel1 wheel2 wheel3 wheel4 u_wheel ++ (ceW cI cZ th2 trial1 trial2 trial3 trial4 z6))) H := hP
        have hD : va_D A (ceX th0 th1 th2 th3 th4 th5 th6 th7 th8 th9 ++ (ceW cI cZ th1 wheel1 wheel2 wheel3 wheel4 u_wheel ++ (ceW cI cZ th2 trial1 trial2 trial3 trial4 z6))) := hD
        refine lv_aload_n hx hb dX10_pebbles_42 rfl (lv_at hl 0 rfl) ?_
        refine va_get (D := D) (ci := 7) (v := .ref th2) (C := RX10) (T := TX10) (N := 9) hx hb hts hi_X10 hown hK hP 0 rfl rfl 1 (by decide) (hts (.fieldLink RX10 16 "FairWheel" "trial" "LFairWheel$Wheel;") (List.mem_of_getElem? (i := 2) rfl)) (fun _ h9 => h9) rfl dX10_pebbles_43 ?_
        refine lv_aload_n hx hb dX10_pebbles_46 rfl (lv_at hl 0 rfl) ?_
        refine va_get (D := D) (ci := 7) (v := .ref th2) (C := RX10) (T := TX10) (N := 9) hx hb hts hi_X10 hown hK hP 0 rfl rfl 1 (by decide) (hts (.fieldLink RX10 16 "FairWheel" "trial" "LFairWheel$Wheel;") (List.mem_of_getElem? (i := 2) rfl)) (fun _ h9 => h9) rfl dX10_pebbles_47 ?_
        obtain ⟨z7, hz_z7, hf⟩ := o_bind hf
        refine k_calli (va_runV (As := []) (rest := [.ref th2]) ⟨hx, hb, hml, hown, hts⟩ (c_X9_lowest l D cI cZ th2 trial1 trial2 trial3 trial4 H.size z6 z7 hz_z7) (cwV 0 hts gX10_pebbles_X9_lowest rfl rfl rfl ⟨rfl, hd_X9_lowest⟩ ⟨Nat.le_of_ble_eq_true rfl, Nat.le_of_ble_eq_true rfl⟩) (k_preV hK hP hD hS hA hE [6, 7, 8, 9, 10] (by decide) rfl (ci := 6) rfl rfl) rfl rfl hl.1 rfl (lv_room (Nat.le_of_ble_eq_true rfl)) dX10_pebbles_50 ⟨Nat.zero_le _, Nat.zero_le _⟩) hP hD hS hA [6, 7, 8, 9, 10] [none, none, none, none, none, none, some 0, some 1, some 2, some 3, some 4] 5 rfl (by decide) (by decide) rfl rfl (fun H locs hP hD hS => ?_)
        have hP : va_P D vwCl (ceX th0 th1 th2 th3 th4 th5 th6 th7 th8 th9 ++ (ceW cI cZ th1 wheel1 wheel2 wheel3 wheel4 u_wheel ++ (ceW cI cZ th2 trial1 trial2 trial3 trial4 z6))) H := hP
        have hD : va_D A (ceX th0 th1 th2 th3 th4 th5 th6 th7 th8 th9 ++ (ceW cI cZ th1 wheel1 wheel2 wheel3 wheel4 u_wheel ++ (ceW cI cZ th2 trial1 trial2 trial3 trial4 z6))) := hD
        refine lv_iload_n hx hb dX10_pebbles_53 rfl (lv_at hl 2 rfl) ?_
        obtain ⟨z8, hz_z8, hf⟩ := o_bind hf
        refine k_callv (va_runV (As := [.int z7.1, .int v2]) (rest := []) ⟨hx, hb, hml, hown, hts⟩ (c_X9_setLoad l D cI cZ th2 trial1 trial2 trial3 trial4 H.size z6 z7.1 v2 z8 hz_z8) (cwV 2 hts gX10_pebbles_X9_setLoad rfl rfl rfl ⟨rfl, hd_X9_setLoad⟩ ⟨Nat.le_of_ble_eq_true rfl, Nat.le_of_ble_eq_true rfl⟩) (k_preV hK hP hD hS hA hE [6, 7, 8, 9, 10] (by decide) rfl (ci := 6) rfl rfl) rfl rfl hl.1 rfl (lv_room (Nat.le_of_ble_eq_true rfl)) dX10_pebbles_54 ⟨Nat.zero_le _, Nat.zero_le _⟩) hP hD hS hA [6, 7, 8, 9, 10] [none, none, none, none, none, none, some 0, some 1, some 2, some 3, some 4] 5 rfl (by decide) (by decide) rfl rfl (fun H locs hP hD hS => ?_)
        have hP : va_P D vwCl (ceX th0 th1 th2 th3 th4 th5 th6 th7 th8 th9 ++ (ceW cI cZ th1 wheel1 wheel2 wheel3 wheel4 u_wheel ++ (ceW cI cZ th2 trial1 trial2 trial3 trial4 z8))) H := hP
        have hD : va_D A (ceX th0 th1 th2 th3 th4 th5 th6 th7 th8 th9 ++ (ceW cI cZ th1 wheel1 wheel2 wheel3 wheel4 u_wheel ++ (ceW cI cZ th2 trial1 trial2 trial3 trial4 z8))) := hD
        refine lv_aload_n hx hb dX10_pebbles_57 rfl (lv_at hl 0 rfl) ?_
        refine va_get (D := D) (ci := 7) (v := .ref th2) (C := RX10) (T := TX10) (N := 9) hx hb hts hi_X10 hown hK hP 0 rfl rfl 1 (by decide) (hts (.fieldLink RX10 16 "FairWheel" "trial" "LFairWheel$Wheel;") (List.mem_of_getElem? (i := 2) rfl)) (fun _ h9 => h9) rfl dX10_pebbles_58 ?_
        obtain ⟨z9, hz_z9, hf⟩ := o_bind hf
        refine k_calli (va_runV (As := []) (rest := []) ⟨hx, hb, hml, hown, hts⟩ (c_X9_letGo l D cI cZ th2 trial1 trial2 trial3 trial4 H.size z8 z9 hz_z9) (cwV 0 hts gX10_pebbles_X9_letGo rfl rfl rfl ⟨rfl, hd_X9_letGo⟩ ⟨Nat.le_of_ble_eq_true rfl, Nat.le_of_ble_eq_true rfl⟩) (k_preV hK hP hD hS hA hE [6, 7, 8, 9, 10] (by decide) rfl (ci := 6) rfl rfl) rfl rfl hl.1 rfl (lv_room (Nat.le_of_ble_eq_true rfl)) dX10_pebbles_61 ⟨Nat.zero_le _, Nat.zero_le _⟩) hP hD hS hA [6, 7, 8, 9, 10] [none, none, none, none, none, none, some 0, some 1, some 2, some 3, some 4] 5 rfl (by decide) (by decide) rfl rfl (fun H locs hP hD hS => ?_)
        have hP : va_P D vwCl (ceX th0 th1 th2 th3 th4 th5 th6 th7 th8 th9 ++ (ceW cI cZ th1 wheel1 wheel2 wheel3 wheel4 u_wheel ++ (ceW cI cZ th2 trial1 trial2 trial3 trial4 z9.2))) H := hP
        have hD : va_D A (ceX th0 th1 th2 th3 th4 th5 th6 th7 th8 th9 ++ (ceW cI cZ th1 wheel1 wheel2 wheel3 wheel4 u_wheel ++ (ceW cI cZ th2 trial1 trial2 trial3 trial4 z9.2))) := hD
        refine lv_pop hx hb dX10_pebbles_64 rfl ?_
        refine lv_aload_n hx hb dX10_pebbles_65 rfl (lv_at hl 0 rfl) ?_
        refine va_get (D := D) (ci := 7) (v := .ref th2) (C := RX10) (T := TX10) (N := 9) hx hb hts hi_X10 hown hK hP 0 rfl rfl 1 (by decide) (hts (.fieldLink RX10 16 "FairWheel" "trial" "LFairWheel$Wheel;") (List.mem_of_getElem? (i := 2) rfl)) (fun _ h9 => h9) rfl dX10_pebbles_66 ?_
        refine lv_iload_n hx hb dX10_pebbles_69 rfl (lv_at hl 1 rfl) ?_
        obtain ⟨z10, hz_z10, hf⟩ := o_bind hf
        refine k_calli (va_runV (As := [.int v1]) (rest := []) ⟨hx, hb, hml, hown, hts⟩ (c_X9_isLowest l D cI cZ th2 trial1 trial2 trial3 trial4 H.size z9.2 v1 z10 hz_z10) (cwV 1 hts gX10_pebbles_X9_isLowest rfl rfl rfl ⟨rfl, hd_X9_isLowest⟩ ⟨Nat.le_of_ble_eq_true rfl, Nat.le_of_ble_eq_true rfl⟩) (k_preV hK hP hD hS hA hE [6, 7, 8, 9, 10] (by decide) rfl (ci := 6) rfl rfl) rfl rfl hl.1 rfl (lv_room (Nat.le_of_ble_eq_true rfl)) dX10_pebbles_70 ⟨Nat.zero_le _, Nat.zero_le _⟩) hP hD hS hA [6, 7, 8, 9, 10] [none, none, none, none, none, none, some 0, some 1, some 2, some 3, some 4] 5 rfl (by decide) (by decide) rfl rfl (fun H locs hP hD hS => ?_)
        have hP : va_P D vwCl (ceX th0 th1 th2 th3 th4 th5 th6 th7 th8 th9 ++ (ceW cI cZ th1 wheel1 wheel2 wheel3 wheel4 u_wheel ++ (ceW cI cZ th2 trial1 trial2 trial3 trial4 z9.2))) H := hP
        have hD : va_D A (ceX th0 th1 th2 th3 th4 th5 th6 th7 th8 th9 ++ (ceW cI cZ th1 wheel1 wheel2 wheel3 wheel4 u_wheel ++ (ceW cI cZ th2 trial1 trial2 trial3 trial4 z9.2))) := hD
        refine lv_if_eq (tgt := 78) hx hb dX10_pebbles_73 (by decide) (fun c11 => ?_) (fun c11 => ?_)
        · have hf := (if_pos c11).symm.trans hf
          refine lv_iinc (v := (v2 + (1 : Int32))) (lv' := [(2, .int (v2 + (1 : Int32))), (0, .ref th0), (1, .int v1)]) hx hb dX10_pebbles_78 hl (k := 2) rfl rfl (by decide) rfl (fun ls hl => ?_)
          refine lv_goto (tgt := 25) hx hb dX10_pebbles_81 (by decide) ?_
          exact ih v1 (v2 + (1 : Int32)) z9.2 _ _ ls (lv_sub hl [1, 2, 0] rfl) hP hD hS hf
        · have hf := (if_neg c11).symm.trans hf
          refine lv_iload_n hx hb dX10_pebbles_76 rfl (lv_at hl 2 rfl) ?_
          exact k_iret (v := v2) (u := z9.2) hx hb hr hlocks hK hS eQ hf hP hD dX10_pebbles_77
  rw [f_X10_pebbles] at hf
  refine lv_iload_n hx hb dX10_pebbles_0 rfl (lv_at hl 1 rfl) ?_
  obtain ⟨z1, hz_z1, hf⟩ := o_bind hf
  refine k_calli (va_runS (As := [.int p1]) (rest := []) ⟨hx, hb, hml, hown, hts⟩ (c_X10_isPerson l D cI cZ  H.size p1 z1 hz_z1) (va_cwS 1 hts gX10_pebbles_X10_isPerson rfl rfl rfl hd_X10_isPerson ⟨Nat.le_of_ble_eq_true rfl, Nat.le_of_ble_eq_true rfl⟩) (k_preS hK hP hD hS hA hE [] (by decide) rfl) rfl rfl hl.1 rfl (lv_room (Nat.le_of_ble_eq_true rfl)) dX10_pebbles_1 ⟨Nat.zero_le _, Nat.zero_le _⟩) hP hD hS hA [] [none, none, none, none, none, none, none, none, none, none, none] 0 rfl (by decide) (by decide) rfl rfl (fun H locs hP hD hS => ?_)
  have hP : va_P D vwCl (ceX th0 th1 th2 th3 th4 th5 th6 th7 th8 th9 ++ (ceW cI cZ th1 wheel1 wheel2 wheel3 wheel4 u_wheel ++ (ceW cI cZ th2 trial1 trial2 trial3 trial4 u_trial))) H := hP
  have hD : va_D A (ceX th0 th1 th2 th3 th4 th5 th6 th7 th8 th9 ++ (ceW cI cZ th1 wheel1 wheel2 wheel3 wheel4 u_wheel ++ (ceW cI cZ th2 trial1 trial2 trial3 trial4 u_trial))) := hD
  refine lv_if_ne (tgt := 9) hx hb dX10_pebbles_4 (by decide) (fun c2 => ?_) (fun c2 => ?_)
  · have hf := (if_neg c2).symm.trans hf
    refine lv_aload_n hx hb dX10_pebbles_9 rfl (lv_at hl 0 rfl) ?_
    refine va_get (D := D) (ci := 7) (v := .ref th1) (C := RX10) (T := TX10) (N := 9) hx hb hts hi_X10 hown hK hP 0 rfl rfl 0 (by decide) (hts (.fieldLink RX10 10 "FairWheel" "wheel" "LFairWheel$Wheel;") (List.mem_of_getElem? (i := 1) rfl)) (fun _ h9 => h9) rfl dX10_pebbles_10 ?_
    refine lv_iload_n hx hb dX10_pebbles_13 rfl (lv_at hl 1 rfl) ?_
    obtain ⟨z3, hz_z3, hf⟩ := o_bind hf
    refine k_calli (va_runV (As := [.int p1]) (rest := []) ⟨hx, hb, hml, hown, hts⟩ (c_X9_isAboard l D cI cZ th1 wheel1 wheel2 wheel3 wheel4 H.size u_wheel p1 z3 hz_z3) (cwV 1 hts gX10_pebbles_X9_isAboard rfl rfl rfl ⟨rfl, hd_X9_isAboard⟩ ⟨Nat.le_of_ble_eq_true rfl, Nat.le_of_ble_eq_true rfl⟩) (k_preV hK hP hD hS hA hE [1, 2, 3, 4, 5] (by decide) rfl (ci := 6) rfl rfl) rfl rfl hl.1 rfl (lv_room (Nat.le_of_ble_eq_true rfl)) dX10_pebbles_14 ⟨Nat.zero_le _, Nat.zero_le _⟩) hP hD hS hA [1, 2, 3, 4, 5] [none, some 0, some 1, some 2, some 3, some 4, none, none, none, none, none] 5 rfl (by decide) (by decide) rfl rfl (fun H locs hP hD hS => ?_)
    have hP : va_P D vwCl (ceX th0 th1 th2 th3 th4 th5 th6 th7 th8 th9 ++ (ceW cI cZ th1 wheel1 wheel2 wheel3 wheel4 u_wheel ++ (ceW cI cZ th2 trial1 trial2 trial3 trial4 u_trial))) H := hP
    have hD : va_D A (ceX th0 th1 th2 th3 th4 th5 th6 th7 th8 th9 ++ (ceW cI cZ th1 wheel1 wheel2 wheel3 wheel4 u_wheel ++ (ceW cI cZ th2 trial1 trial2 trial3 trial4 u_trial))) := hD
    refine lv_if_ne (tgt := 23) hx hb dX10_pebbles_17 (by decide) (fun c4 => ?_) (fun c4 => ?_)
    · have hf := (if_neg c4).symm.trans hf
      refine lv_iconst (v := 0) hx hb dX10_pebbles_23 (by decide) ?_
      refine lv_istore_n (lv' := [(2, .int (0 : Int32)), (0, .ref th0), (1, .int p1)]) hx hb dX10_pebbles_24 rfl hl (by decide) rfl (fun ls hl => ?_)
      exact hL25 oF p1 (0 : Int32) u_trial _ _ ls (lv_sub hl [1, 2, 0] rfl) hP hD hS hf
    · have hf := (if_pos c4).symm.trans hf
      refine lv_bipush (v := -3) hx hb dX10_pebbles_20 (by decide) ?_
      exact k_iret (v := (-3 : Int32)) (u := u_trial) hx hb hr hlocks hK hS eQ hf hP hD dX10_pebbles_22
  · have hf := (if_pos c2).symm.trans hf
    refine lv_iconst (v := -1) hx hb dX10_pebbles_7 (by decide) ?_
    exact k_iret (v := (-1 : Int32)) (u := u_trial) hx hb hr hlocks hK hS eQ hf hP hD dX10_pebbles_8
theorem hd_X10_brake : yX10_brake.cls ≠ "java/lang/invoke/MethodHandle" ∧ yX10_brake.cls ≠ "java/lang/invoke/VarHandle" ∧ (parseMethodDescriptor yX10_brake.desc).map (fun d => d.parameters.length) = some 0 := by decide +kernel
set_option maxHeartbeats 4000000 in
set_option maxRecDepth 100000 in
theorem c_X10_brake (l : Launch) (D : va_G) (cI cZ : ClassId) (th0 : Nat) (th1 : Nat) (th2 : Nat) (th3 : Nat) (th4 : Nat) (th5 : Nat) (th6 : Nat) (th7 : Nat) (th8 : Nat) (th9 : Nat) (wheel1 : Nat) (wheel2 : Nat) (wheel3 : Nat) (wheel4 : Nat) (sz : Nat) (u_wheel : sW) (z : Int32 × Unit) (hf : f_X10_brake u_wheel = some z) : Met l yX10_brake wsX10_brake rmX10_brake (va_Pc [.ref th0] (wPr D cI cZ (ceX th0 th1 th2 th3 th4 th5 th6 th7 th8 th9 ++ (ceW cI cZ th1 wheel1 wheel2 wheel3 wheel4 u_wheel)) sz)) (va_Qi (fun (r : Int32) (v : Unit) => (r, v) = z) (fun (v : Unit) t => wPo D cI cZ (va_A (ceX th0 th1 th2 th3 th4 th5 th6 th7 th8 th9 ++ (ceW cI cZ th1 wheel1 wheel2 wheel3 wheel4 u_wheel)) sz) (ceX th0 th1 th2 th3 th4 th5 th6 th7 th8 th9 ++ (ceW cI cZ th1 wheel1 wheel2 wheel3 wheel4 u_wheel)) t) (va_A (ceX th0 th1 th2 th3 th4 th5 th6 th7 th8 th9 ++ (ceW cI cZ th1 wheel1 wheel2 wheel3 wheel4 u_wheel)) sz)) 0 0 (va_A (ceX th0 th1 th2 th3 th4 th5 th6 th7 th8 th9 ++ (ceW cI cZ th1 wheel1 wheel2 wheel3 wheel4 u_wheel)) sz) := by
  refine k_enter (D := D) (cI := cI) (cZ := cZ) (wl := ceX th0 th1 th2 th3 th4 th5 th6 th7 th8 th9 ++ (ceW cI cZ th1 wheel1 wheel2 wheel3 wheel4 u_wheel)) (sz := sz) (av := [.ref th0]) (cc := cX10_brake) (maxL := 1) (ret := (some .int)) (Qc := fun A => va_Qi (fun (r : Int32) (v : Unit) => (r, v) = z) (fun (v : Unit) t => wPo D cI cZ (A) (ceX th0 th1 th2 th3 th4 th5 th6 th7 th8 th9 ++ (ceW cI cZ th1 wheel1 wheel2 wheel3 wheel4 u_wheel)) t) (A)) (by decide) rfl (Nat.le_of_ble_eq_true rfl) ?_
  intro p e s m below meth c ls A Q H locs eQ hx hb hr hml hts hown hlocks hK hP hD hS hA hE hl
  have hown : s.vm.findClass RX10 = some m.cls := hown
  have hl : lv_has ls 1 [(0, .ref th0)] := hl
  have hi_X10 : ∀ w ∈ wsX100, w ∈ wsX10_brake := fun w h => List.mem_cons_of_mem _ (List.mem_append_left _ (List.mem_append_right _ h))
  rw [f_X10_brake] at hf
  refine lv_aload_n hx hb dX10_brake_0 rfl (lv_at hl 0 rfl) ?_
  refine va_get (D := D) (ci := 7) (v := .ref th1) (C := RX10) (T := TX10) (N := 9) hx hb hts hi_X10 hown hK hP 0 rfl rfl 0 (by decide) (hts (.fieldLink RX10 10 "FairWheel" "wheel" "LFairWheel$Wheel;") (List.mem_of_getElem? (i := 1) rfl)) (fun _ h9 => h9) rfl dX10_brake_1 ?_
  obtain ⟨z1, hz_z1, hf⟩ := o_bind hf
  refine k_calli (va_runV (As := []) (rest := []) ⟨hx, hb, hml, hown, hts⟩ (c_X9_greatestPull l D cI cZ th1 wheel1 wheel2 wheel3 wheel4 H.size u_wheel z1 hz_z1) (cwV 0 hts gX10_brake_X9_greatestPull rfl rfl rfl ⟨rfl, hd_X9_greatestPull⟩ ⟨Nat.le_of_ble_eq_true rfl, Nat.le_of_ble_eq_true rfl⟩) (k_preV hK hP hD hS hA hE [1, 2, 3, 4, 5] (by decide) rfl (ci := 6) rfl rfl) rfl rfl hl.1 rfl (lv_room (Nat.le_of_ble_eq_true rfl)) dX10_brake_4 ⟨Nat.zero_le _, Nat.zero_le _⟩) hP hD hS hA [1, 2, 3, 4, 5] [none, some 0, some 1, some 2, some 3, some 4] 5 rfl (by decide) (by decide) rfl rfl (fun H locs hP hD hS => ?_)
  have hP : va_P D vwCl (ceX th0 th1 th2 th3 th4 th5 th6 th7 th8 th9 ++ (ceW cI cZ th1 wheel1 wheel2 wheel3 wheel4 u_wheel)) H := hP
  have hD : va_D A (ceX th0 th1 th2 th3 th4 th5 th6 th7 th8 th9 ++ (ceW cI cZ th1 wheel1 wheel2 wheel3 wheel4 u_wheel)) := hD
  exact k_iret (v := z1.1) (u := ()) hx hb hr hlocks hK hS eQ hf hP hD dX10_brake_7
theorem hd_X10_balance : yX10_balance.cls ≠ "java/lang/invoke/MethodHandle" ∧ yX10_balance.cls ≠ "java/lang/invoke/VarHandle" ∧ (parseMethodDescriptor yX10_balance.desc).map (fun d => d.parameters.length) = some 2 := by decide +kernel
set_option maxHeartbeats 4000000 in
set_option maxRecDepth 100000 in
theorem c_X10_balance (l : Launch) (D : va_G) (cI cZ : ClassId) (th0 : Nat) (th1 : Nat) (th2 : Nat) (th3 : Nat) (th4 : Nat) (th5 : Nat) (th6 : Nat) (th7 : Nat) (th8 : Nat) (th9 : Nat) (wheel1 : Nat) (wheel2 : Nat) (wheel3 : Nat) (wheel4 : Nat) (seating1 : Nat) (seating2 : Nat) (seating3 : Nat) (seating4 : Nat) (seating5 : Nat) (seating6 : Nat) (sz : Nat) (u_wheel : sW) (u_seating : sG) (p1 : Int32) (p2 : Int32) (z : Int32 × sG) (hf : f_X10_balance u_wheel u_seating p1 p2 = some z) : Met l yX10_balance wsX10_balance rmX10_balance (va_Pc [.ref th0, .int p1, .int p2] (wPr D cI cZ (ceX th0 th1 th2 th3 th4 th5 th6 th7 th8 th9 ++ (ceW cI cZ th1 wheel1 wheel2 wheel3 wheel4 u_wheel ++ (ceG cI cZ th6 seating1 seating2 seating3 seating4 seating5 seating6 u_seating))) sz)) (va_Qi (fun (r : Int32) (v : sG) => (r, v) = z) (fun (v : sG) t => wPo D cI cZ (va_A (ceX th0 th1 th2 th3 th4 th5 th6 th7 th8 th9 ++ (ceW cI cZ th1 wheel1 wheel2 wheel3 wheel4 u_wheel ++ (ceG cI cZ th6 seating1 seating2 seating3 seating4 seating5 seating6 u_seating))) sz) (ceX th0 th1 th2 th3 th4 th5 th6 th7 th8 th9 ++ (ceW cI cZ th1 wheel1 wheel2 wheel3 wheel4 u_wheel ++ (ceG cI cZ th6 seating1 seating2 seating3 seating4 seating5 seating6 v))) t) (va_A (ceX th0 th1 th2 th3 th4 th5 th6 th7 th8 th9 ++ (ceW cI cZ th1 wheel1 wheel2 wheel3 wheel4 u_wheel ++ (ceG cI cZ th6 seating1 seating2 seating3 seating4 seating5 seating6 u_seating))) sz)) 0 0 (va_A (ceX th0 th1 th2 th3 th4 th5 th6 th7 th8 th9 ++ (ceW cI cZ th1 wheel1 wheel2 wheel3 wheel4 u_wheel ++ (ceG cI cZ th6 seating1 seating2 seating3 seating4 seating5 seating6 u_seating))) sz) := by
  refine k_enter (D := D) (cI := cI) (cZ := cZ) (wl := ceX th0 th1 th2 th3 th4 th5 th6 th7 th8 th9 ++ (ceW cI cZ th1 wheel1 wheel2 wheel3 wheel4 u_wheel ++ (ceG cI cZ th6 seating1 seating2 seating3 seating4 seating5 seating6 u_seating))) (sz := sz) (av := [.ref th0, .int p1, .int p2]) (cc := cX10_balance) (maxL := 4) (ret := (some .int)) (Qc := fun A => va_Qi (fun (r : Int32) (v : sG) => (r, v) = z) (fun (v : sG) t => wPo D cI cZ (A) (ceX th0 th1 th2 th3 th4 th5 th6 th7 th8 th9 ++ (ceW cI cZ th1 wheel1 wheel2 wheel3 wheel4 u_wheel ++ (ceG cI cZ th6 seating1 seating2 seating3 seating4 seating5 seating6 v))) t) (A)) (by decide) rfl (Nat.le_of_ble_eq_true rfl) ?_
  intro p e s m below meth c ls A Q H locs eQ hx hb hr hml hts hown hlocks hK hP hD hS hA hE hl
  have hown : s.vm.findClass RX10 = some m.cls := hown
  have hl : lv_has ls 4 [(0, .ref th0), (1, .int p1), (2, .int p2)] := hl
  have hi_X10 : ∀ w ∈ wsX100, w ∈ wsX10_balance := fun w h => List.mem_cons_of_mem _ (List.mem_append_left _ (List.mem_append_left _ (List.mem_append_right _ h)))
  have hJ43 : ∀ (v1 : Int32) (v2 : Int32) (u_seating : sG) (H : Heap) (locs : List Loc) (ls : Array Slot), lv_has ls 4 [(0, .ref th0), (1, .int v1), (2, .int v2)] → va_P D vwCl (ceX th0 th1 th2 th3 th4 th5 th6 th7 th8 th9 ++ (ceW cI cZ th1 wheel1 wheel2 wheel3 wheel4 u_wheel ++ (ceG cI cZ th6 seating1 seating2 seating3 seating4 seating5 seating6 u_seating))) H → va_D A (ceX th0 th1 th2 th3 th4 th5 th6 th7 th8 th9 ++ (ceW cI cZ th1 wheel1 wheel2 wheel3 wheel4 u_wheel ++ (ceG cI cZ th6 seating1 seating2 seating3 seating4 seating5 seating6 u_seating))) → va_S A s.heap H locs → f_X10_balance_J43 u_wheel v1 v2 u_seating = some z → W p l e (headSpec wsX10_balance rmX10_balance).room s m ([.ref th0, .int p1, .int p2] : List Value).toArray below meth c H locs 0 0 Q (F0 m 43 ls []) := by
    intro  v1 v2 u_seating H locs ls hl hP hD hS hf
    rw [f_X10_balance_J43] at hf
    refine lv_iload_n hx hb dX10_balance_43 rfl (lv_at hl 1 rfl) ?_
    obtain ⟨z5, hz_z5, hf⟩ := o_bind hf
    refine k_calli (va_runS (As := [.int v1]) (rest := []) ⟨hx, hb, hml, hown, hts⟩ (c_J6_bitCount_0f7a4 l D cI cZ  H.size v1 z5 hz_z5) (va_cwS 1 hts gX10_balance_J6_bitCount_0f7a4 rfl rfl rfl hd_J6_bitCount_0f7a4 ⟨Nat.le_of_ble_eq_true rfl, Nat.le_of_ble_eq_true rfl⟩) (k_preS hK hP hD hS hA hE [] (by decide) rfl) rfl rfl hl.1 rfl (lv_room (Nat.le_of_ble_eq_true rfl)) dX10_balance_44 ⟨Nat.zero_le _, Nat.zero_le _⟩) hP hD hS hA [] [none, none, none, none, none, none, none, none, none, none, none, none, none] 0 rfl (by decide) (by decide) rfl rfl (fun H locs hP hD hS => ?_)
    have hP : va_P D vwCl (ceX th0 th1 th2 th3 th4 th5 th6 th7 th8 th9 ++ (ceW cI cZ th1 wheel1 wheel2 wheel3 wheel4 u_wheel ++ (ceG cI cZ th6 seating1 seating2 seating3 seating4 seating5 seating6 u_seating))) H := hP
    have hD : va_D A (ceX th0 th1 th2 th3 th4 th5 th6 th7 th8 th9 ++ (ceW cI cZ th1 wheel1 wheel2 wheel3 wheel4 u_wheel ++ (ceG cI cZ th6 seating1 seating2 seating3 seating4 seating5 seating6 u_seating))) := hD
    refine lv_iconst (v := 5) hx hb dX10_balance_47 (by decide) ?_
    refine lv_icmp_le (tgt := 54) hx hb dX10_balance_48 (by decide) (fun c6 => ?_) (fun c6 => ?_)
    · have hf := (if_pos c6).symm.trans hf
      refine lv_aload_n hx hb dX10_balance_54 rfl (lv_at hl 0 rfl) ?_
      refine va_get (D := D) (ci := 7) (v := .ref th6) (C := RX10) (T := TX10) (N := 9) hx hb hts hi_X10 hown hK hP 0 rfl rfl 5 (by decide) (hts (.fieldLink RX10 43 "FairWheel" "seating" "LFairWheel$Seating;") (List.mem_of_getElem? (i := 1) rfl)) (fun _ h9 => h9) rfl dX10_balance_55 ?_
      refine lv_aload_n hx hb dX10_balance_58 rfl (lv_at hl 0 rfl) ?_
      refine va_get (D := D) (ci := 7) (v := .ref th1) (C := RX10) (T := TX10) (N := 9) hx hb hts hi_X10 hown hK hP 0 rfl rfl 0 (by decide) (hts (.fieldLink RX10 10 "FairWheel" "wheel" "LFairWheel$Wheel;") (List.mem_of_getElem? (i := 2) rfl)) (fun _ h9 => h9) rfl dX10_balance_59 ?_
      refine lv_iload_n hx hb dX10_balance_62 rfl (lv_at hl 1 rfl) ?_
      obtain ⟨z7, hz_z7, hf⟩ := o_bind hf
      refine k_calli (va_runV (As := [.ref th1, .int v1]) (rest := []) ⟨hx, hb, hml, hown, hts⟩ (c_X5_count l D cI cZ th6 seating1 seating2 seating3 seating4 seating5 seating6 th1 wheel1 wheel2 wheel3 wheel4 H.size u_seating u_wheel v1 z7 hz_z7) (cwV 2 hts gX10_balance_X5_count rfl rfl rfl ⟨rfl, hd_X5_count⟩ ⟨Nat.le_of_ble_eq_true rfl, Nat.le_of_ble_eq_true rfl⟩) (k_preV hK hP hD hS hA hE [6, 7, 8, 9, 10, 11, 12, 1, 2, 3, 4, 5] (by decide) rfl (ci := 2) rfl rfl) rfl rfl hl.1 rfl (lv_room (Nat.le_of_ble_eq_true rfl)) dX10_balance_63 ⟨Nat.zero_le _, Nat.zero_le _⟩) hP hD hS hA [6, 7, 8, 9, 10, 11, 12, 1, 2, 3, 4, 5] [none, some 7, some 8, some 9, some 10, some 11, some 0, some 1, some 2, some 3, some 4, some 5, some 6] 12 rfl (by decide) (by decide) rfl rfl (fun H locs hP hD hS => ?_)
      have hP : va_P D vwCl (ceX th0 th1 th2 th3 th4 th5 th6 th7 th8 th9 ++ (ceW cI cZ th1 wheel1 wheel2 wheel3 wheel4 u_wheel ++ (ceG cI cZ th6 seating1 seating2 seating3 seating4 seating5 seating6 z7.2))) H := hP
      have hD : va_D A (ceX th0 th1 th2 th3 th4 th5 th6 th7 th8 th9 ++ (ceW cI cZ th1 wheel1 wheel2 wheel3 wheel4 u_wheel ++ (ceG cI cZ th6 seating1 seating2 seating3 seating4 seating5 seating6 z7.2))) := hD
      refine lv_istore_n (lv' := [(3, .int z7.1), (0, .ref th0), (1, .int v1), (2, .int v2)]) hx hb dX10_balance_66 rfl hl (by decide) rfl (fun ls hl => ?_)
      refine lv_iload_n hx hb dX10_balance_67 rfl (lv_at hl 3 rfl) ?_
      refine lv_iconst (v := -1) hx hb dX10_balance_68 (by decide) ?_
      refine lv_icmp_ne (tgt := 74) hx hb dX10_balance_69 (by decide) (fun c8 => ?_) (fun c8 => ?_)
      · have hf := (if_neg c8).symm.trans hf
        refine lv_iload_n hx hb dX10_balance_74 rfl (lv_at hl 0 rfl) ?_
        refine lv_if_ne (tgt := 83) hx hb dX10_balance_75 (by decide) (fun c9 => ?_) (fun c9 => ?_)
        · have hf := (if_neg c9).symm.trans hf
          refine lv_aload_n hx hb dX10_balance_83 rfl (lv_at hl 1 rfl) ?_
          refine va_get (D := D) (ci := 7) (v := .ref th6) (C := RX10) (T := TX10) (N := 9) hx hb hts hi_X10 hown hK hP 0 rfl rfl 5 (by decide) (hts (.fieldLink RX10 43 "FairWheel" "seating" "LFairWheel$Seating;") (List.mem_of_getElem? (i := 1) rfl)) (fun _ h9 => h9) rfl dX10_balance_84 ?_
          refine lv_iload_n hx hb dX10_balance_87 rfl (lv_at hl 3 rfl) ?_
          obtain ⟨z10, hz_z10, hf⟩ := o_bind hf
          refine k_calli (va_runV (As := [.int v2]) (rest := []) ⟨hx, hb, hml, hown, hts⟩ (c_X5_carInFirst l D cI cZ th6 seating1 seating2 seating3 seating4 seating5 seating6 H.size z7.2 v2 z10 hz_z10) (cwV 1 hts gX10_balance_X5_carInFirst rfl rfl rfl ⟨rfl, hd_X5_carInFirst⟩ ⟨Nat.le_of_ble_eq_true rfl, Nat.le_of_ble_eq_true rfl⟩) (k_preV hK hP hD hS hA hE [6, 7, 8, 9, 10, 11, 12] (by decide) rfl (ci := 2) rfl rfl) rfl rfl hl.1 rfl (lv_room (Nat.le_of_ble_eq_true rfl)) dX10_balance_88 ⟨Nat.zero_le _, Nat.zero_le _⟩) hP hD hS hA [6, 7, 8, 9, 10, 11, 12] [none, none, none, none, none, none, some 0, some 1, some 2, some 3, some 4, some 5, some 6] 7 rfl (by decide) (by decide) rfl rfl (fun H locs hP hD hS => ?_)
          have hP : va_P D vwCl (ceX th0 th1 th2 th3 th4 th5 th6 th7 th8 th9 ++ (ceW cI cZ th1 wheel1 wheel2 wheel3 wheel4 u_wheel ++ (ceG cI cZ th6 seating1 seating2 seating3 seating4 seating5 seating6 z7.2))) H := hP
          have hD : va_D A (ceX th0 th1 th2 th3 th4 th5 th6 th7 th8 th9 ++ (ceW cI cZ th1 wheel1 wheel2 wheel3 wheel4 u_wheel ++ (ceG cI cZ th6 seating1 seating2 seating3 seating4 seating5 seating6 z7.2))) := hD
          exact k_iret (v := z10.1) (u := z7.2) hx hb hr hlocks hK hS eQ hf hP hD dX10_balance_91
        · have hf := (if_pos c9).symm.trans hf
          refine lv_bipush (v := -6) hx hb dX10_balance_78 (by decide) ?_
          refine lv_goto (tgt := 91) hx hb dX10_balance_80 (by decide) ?_
          exact k_iret (v := (-6 : Int32)) (u := z7.2) hx hb hr hlocks hK hS eQ hf hP hD dX10_balance_91
      · have hf := (if_pos c8).symm.trans hf
        refine lv_iload_n hx hb dX10_balance_72 rfl (lv_at hl 0 rfl) ?_
        exact k_iret (v := z7.1) (u := z7.2) hx hb hr hlocks hK hS eQ hf hP hD dX10_balance_73
    · have hf := (if_neg c6).symm.trans hf
      refine lv_bipush (v := -4) hx hb dX10_balance_51 (by decide) ?_
      exact k_iret (v := (-4 : Int32)) (u := u_seating) hx hb hr hlocks hK hS eQ hf hP hD dX10_balance_53
  have hJ14 : ∀ (v1 : Int32) (v2 : Int32) (u_seating : sG) (H : Heap) (locs : List Loc) (ls : Array Slot), lv_has ls 4 [(0, .ref th0), (1, .int v1), (2, .int v2)] → va_P D vwCl (ceX th0 th1 th2 th3 th4 th5 th6 th7 th8 th9 ++ (ceW cI cZ th1 wheel1 wheel2 wheel3 wheel4 u_wheel ++ (ceG cI cZ th6 seating1 seating2 seating3 seating4 seating5 seating6 u_seating))) H → va_D A (ceX th0 th1 th2 th3 th4 th5 th6 th7 th8 th9 ++ (ceW cI cZ th1 wheel1 wheel2 wheel3 wheel4 u_wheel ++ (ceG cI cZ th6 seating1 seating2 seating3 seating4 seating5 seating6 u_seating))) → va_S A s.heap H locs → f_X10_balance_J14 u_wheel v1 v2 u_seating = some z → W p l e (headSpec wsX10_balance rmX10_balance).room s m ([.ref th0, .int p1, .int p2] : List Value).toArray below meth c H locs 0 0 Q (F0 m 14 ls []) := by
    intro  v1 v2 u_seating H locs ls hl hP hD hS hf
    rw [f_X10_balance_J14] at hf
    refine lv_iload_n hx hb dX10_balance_14 rfl (lv_at hl 1 rfl) ?_
    refine lv_if_lt (tgt := 25) hx hb dX10_balance_15 (by decide) (fun c2 => ?_) (fun c2 => ?_)
    · have hf := (if_pos c2).symm.trans hf
      refine lv_bipush (v := -2) hx hb dX10_balance_25 (by decide) ?_
      exact k_iret (v := (-2 : Int32)) (u := u_seating) hx hb hr hlocks hK hS eQ hf hP hD dX10_balance_27
    · have hf := (if_neg c2).symm.trans hf
      refine lv_iload_n hx hb dX10_balance_18 rfl (lv_at hl 1 rfl) ?_
      refine lv_sipush (v := 256) hx hb dX10_balance_19 (by decide) ?_
      refine lv_icmp_lt (tgt := 28) hx hb dX10_balance_22 (by decide) (fun c3 => ?_) (fun c3 => ?_)
      · have hf := (if_pos c3).symm.trans hf
        refine lv_iload_n hx hb dX10_balance_28 rfl (lv_at hl 2 rfl) ?_
        refine lv_iconst (v := -1) hx hb dX10_balance_29 (by decide) ?_
        refine lv_icmp_eq (tgt := 43) hx hb dX10_balance_30 (by decide) (fun c4 => ?_) (fun c4 => ?_)
        · have hf := (if_pos c4).symm.trans hf
          exact hJ43 v1 v2 u_seating _ _ ls (lv_sub hl [0, 1, 2] rfl) hP hD hS hf
        · have hf := (if_neg c4).symm.trans hf
          refine lv_iload_n hx hb dX10_balance_33 rfl (lv_at hl 1 rfl) ?_
          refine lv_iload_n hx hb dX10_balance_34 rfl (lv_at hl 2 rfl) ?_
          obtain ⟨z11, hz_z11, hf⟩ := o_bind hf
          refine k_calli (va_runS (As := [.int v1, .int v2]) (rest := []) ⟨hx, hb, hml, hown, hts⟩ (c_X10_isOf l D cI cZ  H.size v1 v2 z11 hz_z11) (va_cwS 2 hts gX10_balance_X10_isOf rfl rfl rfl hd_X10_isOf ⟨Nat.le_of_ble_eq_true rfl, Nat.le_of_ble_eq_true rfl⟩) (k_preS hK hP hD hS hA hE [] (by decide) rfl) rfl rfl hl.1 rfl (lv_room (Nat.le_of_ble_eq_true rfl)) dX10_balance_35 ⟨Nat.zero_le _, Nat.zero_le _⟩) hP hD hS hA [] [none, none, none, none, none, none, none, none, none, none, none, none, none] 0 rfl (by decide) (by decide) rfl rfl (fun H locs hP hD hS => ?_)
          have hP : va_P D vwCl (ceX th0 th1 th2 th3 th4 th5 th6 th7 th8 th9 ++ (ceW cI cZ th1 wheel1 wheel2 wheel3 wheel4 u_wheel ++ (ceG cI cZ th6 seating1 seating2 seating3 seating4 seating5 seating6 u_seating))) H := hP
          have hD : va_D A (ceX th0 th1 th2 th3 th4 th5 th6 th7 th8 th9 ++ (ceW cI cZ th1 wheel1 wheel2 wheel3 wheel4 u_wheel ++ (ceG cI cZ th6 seating1 seating2 seating3 seating4 seating5 seating6 u_seating))) := hD
          refine lv_if_ne (tgt := 43) hx hb dX10_balance_38 (by decide) (fun c12 => ?_) (fun c12 => ?_)
          · have hf := (if_neg c12).symm.trans hf
            exact hJ43 v1 v2 u_seating _ _ ls (lv_sub hl [0, 1, 2] rfl) hP hD hS hf
          · have hf := (if_pos c12).symm.trans hf
            refine lv_iconst (v := -1) hx hb dX10_balance_41 (by decide) ?_
            exact k_iret (v := (-1 : Int32)) (u := u_seating) hx hb hr hlocks hK hS eQ hf hP hD dX10_balance_42
      · have hf := (if_neg c3).symm.trans hf
        refine lv_bipush (v := -2) hx hb dX10_balance_25 (by decide) ?_
        exact k_iret (v := (-2 : Int32)) (u := u_seating) hx hb hr hlocks hK hS eQ hf hP hD dX10_balance_27
  rw [f_X10_balance] at hf
  refine lv_iload_n hx hb dX10_balance_0 rfl (lv_at hl 2 rfl) ?_
  refine lv_iconst (v := -1) hx hb dX10_balance_1 (by decide) ?_
  refine lv_icmp_eq (tgt := 14) hx hb dX10_balance_2 (by decide) (fun c1 => ?_) (fun c1 => ?_)
  · have hf := (if_pos c1).symm.trans hf
    exact hJ14 p1 p2 u_seating _ _ ls (lv_sub hl [0, 1, 2] rfl) hP hD hS hf
  · have hf := (if_neg c1).symm.trans hf
    refine lv_iload_n hx hb dX10_balance_5 rfl (lv_at hl 2 rfl) ?_
    obtain ⟨z13, hz_z13, hf⟩ := o_bind hf
    refine k_calli (va_runS (As := [.int p2]) (rest := []) ⟨hx, hb, hml, hown, hts⟩ (c_X10_isPerson l D cI cZ  H.size p2 z13 hz_z13) (va_cwS 1 hts gX10_balance_X10_isPerson rfl rfl rfl hd_X10_isPerson ⟨Nat.le_of_ble_eq_true rfl, Nat.le_of_ble_eq_true rfl⟩) (k_preS hK hP hD hS hA hE [] (by decide) rfl) rfl rfl hl.1 rfl (lv_room (Nat.le_of_ble_eq_true rfl)) dX10_balance_6 ⟨Nat.zero_le _, Nat.zero_le _⟩) hP hD hS hA [] [none, none, none, none, none, none, none, none, none, none, none, none, none] 0 rfl (by decide) (by decide) rfl rfl (fun H locs hP hD hS => ?_)
    have hP : va_P D vwCl (ceX th0 th1 th2 th3 th4 th5 th6 th7 th8 th9 ++ (ceW cI cZ th1 wheel1 wheel2 wheel3 wheel4 u_wheel ++ (ceG cI cZ th6 seating1 seating2 seating3 seating4 seating5 seating6 u_seating))) H := hP
    have hD : va_D A (ceX th0 th1 th2 th3 th4 th5 th6 th7 th8 th9 ++ (ceW cI cZ th1 wheel1 wheel2 wheel3 wheel4 u_wheel ++ (ceG cI cZ th6 seating1 seating2 seating3 seating4 seating5 seating6 u_seating))) := hD
    refine lv_if_ne (tgt := 14) hx hb dX10_balance_9 (by decide) (fun c14 => ?_) (fun c14 => ?_)
    · have hf := (if_neg c14).symm.trans hf
      exact hJ14 p1 p2 u_seating _ _ ls (lv_sub hl [0, 1, 2] rfl) hP hD hS hf
    · have hf := (if_pos c14).symm.trans hf
      refine lv_iconst (v := -1) hx hb dX10_balance_12 (by decide) ?_
      exact k_iret (v := (-1 : Int32)) (u := u_seating) hx hb hr hlocks hK hS eQ hf hP hD dX10_balance_13
theorem hd_X10_could : yX10_could.cls ≠ "java/lang/invoke/MethodHandle" ∧ yX10_could.cls ≠ "java/lang/invoke/VarHandle" ∧ (parseMethodDescriptor yX10_could.desc).map (fun d => d.parameters.length) = some 3 := by decide +kernel
set_option maxHeartbeats 4000000 in
set_option maxRecDepth 100000 in
theorem c_X10_could (l : Launch) (D : va_G) (cI cZ : ClassId) (th0 : Nat) (th1 : Nat) (th2 : Nat) (th3 : Nat) (th4 : Nat) (th5 : Nat) (th6 : Nat) (th7 : Nat) (th8 : Nat) (th9 : Nat) (wheel1 : Nat) (wheel2 : Nat) (wheel3 : Nat) (wheel4 : Nat) (trial1 : Nat) (trial2 : Nat) (trial3 : Nat) (trial4 : Nat) (pad1 : Nat) (telling1 : Nat) (telling2 : Nat) (telling3 : Nat) (telling4 : Nat) (telling5 : Nat) (sz : Nat) (u_wheel : sW) (u_trial : sW) (u_pad : sP) (u_telling : sT) (p1 : Int32) (p2 : Int32) (p3 : Int32) (z : Int32 × sW × sT) (hf : f_X10_could u_wheel u_trial u_pad u_telling p1 p2 p3 = some z) : Met l yX10_could wsX10_could rmX10_could (va_Pc [.ref th0, .int p1, .int p2, .int p3] (wPr D cI cZ (ceX th0 th1 th2 th3 th4 th5 th6 th7 th8 th9 ++ (ceW cI cZ th1 wheel1 wheel2 wheel3 wheel4 u_wheel ++ (ceW cI cZ th2 trial1 trial2 trial3 trial4 u_trial ++ (ceP cI cZ th3 pad1 u_pad ++ (ceT cI cZ th5 telling1 telling2 telling3 telling4 telling5 u_telling))))) sz)) (va_Qi (fun (r : Int32) (v : sW × sT) => (r, v) = z) (fun (v : sW × sT) t => wPo D cI cZ (va_A (ceX th0 th1 th2 th3 th4 th5 th6 th7 th8 th9 ++ (ceW cI cZ th1 wheel1 wheel2 wheel3 wheel4 u_wheel ++ (ceW cI cZ th2 trial1 trial2 trial3 trial4 u_trial ++ (ceP cI cZ th3 pad1 u_pad ++ (ceT cI cZ th5 telling1 telling2 telling3 telling4 telling5 u_telling))))) sz) (ceX th0 th1 th2 th3 th4 th5 th6 th7 th8 th9 ++ (ceW cI cZ th1 wheel1 wheel2 wheel3 wheel4 u_wheel ++ (ceW cI cZ th2 trial1 trial2 trial3 trial4 v.1 ++ (ceP cI cZ th3 pad1 u_pad ++ (ceT cI cZ th5 telling1 telling2 telling3 telling4 telling5 v.2))))) t) (va_A (ceX th0 th1 th2 th3 th4 th5 th6 th7 th8 th9 ++ (ceW cI cZ th1 wheel1 wheel2 wheel3 wheel4 u_wheel ++ (ceW cI cZ th2 trial1 trial2 trial3 trial4 u_trial ++ (ceP cI cZ th3 pad1 u_pad ++ (ceT cI cZ th5 telling1 telling2 telling3 telling4 telling5 u_telling))))) sz)) 0 0 (va_A (ceX th0 th1 th2 th3 th4 th5 th6 th7 th8 th9 ++ (ceW cI cZ th1 wheel1 wheel2 wheel3 wheel4 u_wheel ++ (ceW cI cZ th2 trial1 trial2 trial3 trial4 u_trial ++ (ceP cI cZ th3 pad1 u_pad ++ (ceT cI cZ th5 telling1 telling2 telling3 telling4 telling5 u_telling))))) sz) := by
  refine k_enter (D := D) (cI := cI) (cZ := cZ) (wl := ceX th0 th1 th2 th3 th4 th5 th6 th7 th8 th9 ++ (ceW cI cZ th1 wheel1 wheel2 wheel3 wheel4 u_wheel ++ (ceW cI cZ th2 trial1 trial2 trial3 trial4 u_trial ++ (ceP cI cZ th3 pad1 u_pad ++ (ceT cI cZ th5 telling1 telling2 telling3 telling4 telling5 u_telling))))) (sz := sz) (av := [.ref th0, .int p1, .int p2, .int p3]) (cc := cX10_could) (maxL := 9) (ret := (some .int)) (Qc := fun A => va_Qi (fun (r : Int32) (v : sW × sT) => (r, v) = z) (fun (v : sW × sT) t => wPo D cI cZ (A) (ceX th0 th1 th2 th3 th4 th5 th6 th7 th8 th9 ++ (ceW cI cZ th1 wheel1 wheel2 wheel3 wheel4 u_wheel ++ (ceW cI cZ th2 trial1 trial2 trial3 trial4 v.1 ++ (ceP cI cZ th3 pad1 u_pad ++ (ceT cI cZ th5 telling1 telling2 telling3 telling4 telling5 v.2))))) t) (A)) (by decide) rfl (Nat.le_of_ble_eq_true rfl) ?_
  intro p e s m below meth c ls A Q H locs eQ hx hb hr hml hts hown hlocks hK hP hD hS hA hE hl
  have hown : s.vm.findClass RX10 = some m.cls := hown
  have hl : lv_has ls 9 [(0, .ref th0), (1, .int p1), (2, .int p2), (3, .int p3)] := hl
  have hL56 : ∀ (n : Nat), ∀ (v1 : Int32) (v2 : Int32) (v3 : Int32) (v5 : Int32) (v6 : Int32) (v7 : Int32) (v8 : Int32) (u_trial : sW) (u_telling : sT) (H : Heap) (locs : List Loc) (ls : Array Slot), lv_has ls 9 [(0, .ref th0), (1, .int v1), (2, .int v2), (3, .int v3), (5, .int v5), (6, .int v6), (7, .int v7), (8, .int v8)] → va_P D vwCl (ceX th0 th1 th2 th3 th4 th5 th6 th7 th8 th9 ++ (ceW cI cZ th1 wheel1 wheel2 wheel3 wheel4 u_wheel ++ (ceW cI cZ th2 trial1 trial2 trial3 trial4 u_trial ++ (ceP cI cZ th3 pad1 u_pad ++ (ceT cI cZ th5 telling1 telling2 telling3 telling4 telling5 u_telling))))) H → va_D A (ceX th0 th1 th2 th3 th4 th5 th6 th7 th8 th9 ++ (ceW cI cZ th1 wheel1 wheel2 wheel3 wheel4 u_wheel ++ (ceW cI cZ th2 trial1 trial2 trial3 trial4 u_trial ++ (ceP cI cZ th3 pad1 u_pad ++ (ceT cI cZ th5 telling1 telling2 telling3 telling4 telling5 u_telling))))) → va_S A s.heap H locs → f_X10_could_L56 u_wheel u_pad n v1 v2 v3 v5 v6 v7 v8 u_trial u_telling = some z → W p l e (headSpec wsX10_could rmX10_could).room s m ([.ref th0, .int p1, .int p2, .int p3] : List Value).toArray below meth c H locs 0 0 Q (F0 m 56 ls []) := by
    intro n
    induction n with
    | zero =>
      intro v1 v2 v3 v5 v6 v7 v8 u_trial u_telling H locs ls hl hP hD hS hf
      exact absurd (show (none : Option (Int32 × sW × sT)) = some z from hf) (fun h => by cases h)
    | succ n ih =>
      intro v1 v2 v3 v5 v6 v7 v8 u_trial u_telling H locs ls hl hP hD hS hf
      rw [f_X10_could_L56] at hf
      refine lv_iload hx hb dX10_could_56 (lv_at hl 7 rfl) ?_
      refine lv_bipush (v := 99) hx hb dX10_could_58 (by decide) ?_
      refine lv_icmp_gt (tgt := 103) hx hb dX10_could_60 (by decide) (fun c9 => ?_) (fun c9 => ?_)
      · have hf := (if_pos c9).symm.trans hf
        refine lv_iload_n hx hb dX10_could_103 rfl (lv_at hl 3 rfl) ?_
        refine lv_if_ne (tgt := 110) hx hb dX10_could_104 (by decide) (fun c10 => ?_) (fun c10 => ?_)
        · have hf := (if_neg c10).symm.trans hf
          refine lv_iload_n hx hb dX10_could_110 rfl (lv_at hl 3 rfl) ?_
          refine lv_iconst (v := 1) hx hb dX10_could_111 (by decide) ?_
          refine lv_icmp_ne (tgt := 120) hx hb dX10_could_112 (by decide) (fun c11 => ?_) (fun c11 => ?_)
          · have hf := (if_neg c11).symm.trans hf
            refine lv_iload hx hb dX10_could_120 (lv_at hl 6 rfl) ?_
            exact k_iret (v := v7) (u := (u_trial, u_telling)) hx hb hr hlocks hK hS eQ hf hP hD dX10_could_122
          · have hf := (if_pos c11).symm.trans hf
            refine lv_iload hx hb dX10_could_115 (lv_at hl 5 rfl) ?_
            refine lv_goto (tgt := 122) hx hb dX10_could_117 (by decide) ?_
            exact k_iret (v := v6) (u := (u_trial, u_telling)) hx hb hr hlocks hK hS eQ hf hP hD dX10_could_122
        · have hf := (if_pos c10).symm.trans hf
          refine lv_iload hx hb dX10_could_107 (lv_at hl 4 rfl) ?_
          exact k_iret (v := v5) (u := (u_trial, u_telling)) hx hb hr hlocks hK hS eQ hf hP hD dX10_could_109
      · have hf := (if_neg c9).symm.trans hf
        refine lv_aload_n hx hb dX10_could_63 rfl (lv_at hl 0 rfl) ?_
        refine lv_iload_n hx hb dX10_could_64 rfl (lv_at hl 1 rfl) ?_
        refine lv_iload hx hb dX10_could_65 (lv_at hl 7 rfl) ?_
        refine lv_iload_n hx hb dX10_could_67 rfl (lv_at hl 2 rfl) ?_
        obtain ⟨z12, hz_z12, hf⟩ := o_bind hf
        refine k_calli (va_runV (As := [.int v1, .int v8, .int v2]) (rest := []) ⟨hx, hb, hml, hown, hts⟩ (c_X10_endsAt l D cI cZ th0 th1 th2 th3 th4 th5 th6 th7 th8 th9 wheel1 wheel2 wheel3 wheel4 trial1 trial2 trial3 trial4 pad1 telling1 telling2 telling3 telling4 telling5 H.size u_wheel u_trial u_pad u_telling v1 v8 v2 z12 hz_z12) (cwV 3 hts gX10_could_X10_endsAt rfl rfl rfl ⟨rfl, hd_X10_endsAt⟩ ⟨Nat.le_of_ble_eq_true rfl, Nat.le_of_ble_eq_true rfl⟩) (k_preV hK hP hD hS hA hE [0, 1, 2, 3, 4, 5, 6, 7, 8, 9, 10, 11, 12, 13, 14, 15, 16, 17, 18] (by decide) rfl (ci := 7) rfl rfl) rfl rfl hl.1 rfl (lv_room (Nat.le_of_ble_eq_true rfl)) dX10_could_68 ⟨Nat.zero_le _, Nat.zero_le _⟩) hP hD hS hA [0, 1, 2, 3, 4, 5, 6, 7, 8, 9, 10, 11, 12, 13, 14, 15, 16, 17, 18] [some 0, some 1, some 2, some 3, some 4, some 5, some 6, some 7, some 8, some 9, some 10, some 11, some 12, some 13, some 14, some 15, some 16, some 17, some 18] 19 rfl (by decide) (by decide) rfl rfl (fun H locs hP hD hS => ?_)
        have hP : va_P D vwCl (ceX th0 th1 th2 th3 th4 th5 th6 th7 th8 th9 ++ (ceW cI cZ th1 wheel1 wheel2 wheel3 wheel4 u_wheel ++ (ceW cI cZ th2 trial1 trial2 trial3 trial4 z12.2.1 ++ (ceP cI cZ th3 pad1 u_pad ++ (ceT cI cZ th5 telling1 telling2 telling3 telling4 telling5 z12.2.2))))) H := hP
        have hD : va_D A (ceX th0 th1 th2 th3 th4 th5 th6 th7 th8 th9 ++ (ceW cI cZ th1 wheel1 wheel2 wheel3 wheel4 u_wheel ++ (ceW cI cZ th2 trial1 trial2 trial3 trial4 z12.2.1 ++ (ceP cI cZ th3 pad1 u_pad ++ (ceT cI cZ th5 telling1 telling2 telling3 telling4 telling5 z12.2.2))))) := hD
        refine lv_if_eq (tgt := 97) hx hb dX10_could_71 (by decide) (fun c13 => ?_) (fun c13 => ?_)
        · have hf := (if_pos c13).symm.trans hf
          refine lv_iinc (v := (v8 + (1 : Int32))) (lv' := [(8, .int (v8 + (1 : Int32))), (0, .ref th0), (1, .int v1), (2, .int v2), (3, .int v3), (5, .int v5), (6, .int v6), (7, .int v7)]) hx hb dX10_could_97 hl (k := 7) rfl rfl (by decide) rfl (fun ls hl => ?_)
          refine lv_goto (tgt := 56) hx hb dX10_could_100 (by decide) ?_
          exact ih v1 v2 v3 v5 v6 v7 (v8 + (1 : Int32)) z12.2.1 z12.2.2 _ _ ls (lv_sub hl [1, 2, 3, 4, 5, 6, 7, 0] rfl) hP hD hS hf
        · have hf := (if_neg c13).symm.trans hf
          refine lv_iinc (v := (v5 + (1 : Int32))) (lv' := [(5, .int (v5 + (1 : Int32))), (0, .ref th0), (1, .int v1), (2, .int v2), (3, .int v3), (6, .int v6), (7, .int v7), (8, .int v8)]) hx hb dX10_could_74 hl (k := 4) rfl rfl (by decide) rfl (fun ls hl => ?_)
          refine lv_iload hx hb dX10_could_77 (lv_at hl 5 rfl) ?_
          refine lv_bipush (v := -6) hx hb dX10_could_79 (by decide) ?_
          refine lv_icmp_ne (tgt := 89) hx hb dX10_could_81 (by decide) (fun c14 => ?_) (fun c14 => ?_)
          · have hf := (if_neg c14).symm.trans hf
            refine lv_iload hx hb dX10_could_89 (lv_at hl 5 rfl) ?_
            refine lv_istore (lv' := [(6, .int v6), (5, .int (v5 + (1 : Int32))), (0, .ref th0), (1, .int v1), (2, .int v2), (3, .int v3), (7, .int v7), (8, .int v8)]) hx hb dX10_could_91 hl (by decide) rfl (fun ls hl => ?_)
            refine lv_iload hx hb dX10_could_93 (lv_at hl 7 rfl) ?_
            refine lv_istore (lv' := [(7, .int v8), (6, .int v6), (5, .int (v5 + (1 : Int32))), (0, .ref th0), (1, .int v1), (2, .int v2), (3, .int v3), (8, .int v8)]) hx hb dX10_could_95 hl (by decide) rfl (fun ls hl => ?_)
            refine lv_iinc (v := (v8 + (1 : Int32))) (lv' := [(8, .int (v8 + (1 : Int32))), (7, .int v8), (6, .int v6), (5, .int (v5 + (1 : Int32))), (0, .ref th0), (1, .int v1), (2, .int v2), (3, .int v3)]) hx hb dX10_could_97 hl (k := 7) rfl rfl (by decide) rfl (fun ls hl => ?_)
            refine lv_goto (tgt := 56) hx hb dX10_could_100 (by decide) ?_
            exact ih v1 v2 v3 (v5 + (1 : Int32)) v6 v8 (v8 + (1 : Int32)) z12.2.1 z12.2.2 _ _ ls (lv_sub hl [4, 5, 6, 7, 3, 2, 1, 0] rfl) hP hD hS hf
          · have hf := (if_pos c14).symm.trans hf
            refine lv_iload hx hb dX10_could_84 (lv_at hl 7 rfl) ?_
            refine lv_goto (tgt := 91) hx hb dX10_could_86 (by decide) ?_
            refine lv_istore (lv' := [(6, .int v8), (5, .int (v5 + (1 : Int32))), (0, .ref th0), (1, .int v1), (2, .int v2), (3, .int v3), (7, .int v7), (8, .int v8)]) hx hb dX10_could_91 hl (by decide) rfl (fun ls hl => ?_)
            refine lv_iload hx hb dX10_could_93 (lv_at hl 7 rfl) ?_
            refine lv_istore (lv' := [(7, .int v8), (6, .int v8), (5, .int (v5 + (1 : Int32))), (0, .ref th0), (1, .int v1), (2, .int v2), (3, .int v3), (8, .int v8)]) hx hb dX10_could_95 hl (by decide) rfl (fun ls hl => ?_)
            refine lv_iinc (v := (v8 + (1 : Int32))) (lv' := [(8, .int (v8 + (1 : Int32))), (7, .int v8), (6, .int v8), (5, .int (v5 + (1 : Int32))), (0, .ref th0), (1, .int v1), (2, .int v2), (3, .int v3)]) hx hb dX10_could_97 hl (k := 7) rfl rfl (by decide) rfl (fun ls hl => ?_)
            refine lv_goto (tgt := 56) hx hb dX10_could_100 (by decide) ?_
            exact ih v1 v2 v3 (v5 + (1 : Int32)) v8 v8 (v8 + (1 : Int32)) z12.2.1 z12.2.2 _ _ ls (lv_sub hl [4, 5, 6, 7, 3, 2, 1, 0] rfl) hP hD hS hf
  rw [f_X10_could] at hf
  refine lv_iload_n hx hb dX10_could_0 rfl (lv_at hl 1 rfl) ?_
  obtain ⟨z1, hz_z1, hf⟩ := o_bind hf
  refine k_calli (va_runS (As := [.int p1]) (rest := []) ⟨hx, hb, hml, hown, hts⟩ (c_X10_isPerson l D cI cZ  H.size p1 z1 hz_z1) (va_cwS 1 hts gX10_could_X10_isPerson rfl rfl rfl hd_X10_isPerson ⟨Nat.le_of_ble_eq_true rfl, Nat.le_of_ble_eq_true rfl⟩) (k_preS hK hP hD hS hA hE [] (by decide) rfl) rfl rfl hl.1 rfl (lv_room (Nat.le_of_ble_eq_true rfl)) dX10_could_1 ⟨Nat.zero_le _, Nat.zero_le _⟩) hP hD hS hA [] [none, none, none, none, none, none, none, none, none, none, none, none, none, none, none, none, none, none, none] 0 rfl (by decide) (by decide) rfl rfl (fun H locs hP hD hS => ?_)
  have hP : va_P D vwCl (ceX th0 th1 th2 th3 th4 th5 th6 th7 th8 th9 ++ (ceW cI cZ th1 wheel1 wheel2 wheel3 wheel4 u_wheel ++ (ceW cI cZ th2 trial1 trial2 trial3 trial4 u_trial ++ (ceP cI cZ th3 pad1 u_pad ++ (ceT cI cZ th5 telling1 telling2 telling3 telling4 telling5 u_telling))))) H := hP
  have hD : va_D A (ceX th0 th1 th2 th3 th4 th5 th6 th7 th8 th9 ++ (ceW cI cZ th1 wheel1 wheel2 wheel3 wheel4 u_wheel ++ (ceW cI cZ th2 trial1 trial2 trial3 trial4 u_trial ++ (ceP cI cZ th3 pad1 u_pad ++ (ceT cI cZ th5 telling1 telling2 telling3 telling4 telling5 u_telling))))) := hD
  refine lv_if_eq (tgt := 14) hx hb dX10_could_4 (by decide) (fun c2 => ?_) (fun c2 => ?_)
  · have hf := (if_pos c2).symm.trans hf
    refine lv_iconst (v := -1) hx hb dX10_could_14 (by decide) ?_
    exact k_iret (v := (-1 : Int32)) (u := (u_trial, u_telling)) hx hb hr hlocks hK hS eQ hf hP hD dX10_could_15
  · have hf := (if_neg c2).symm.trans hf
    refine lv_iload_n hx hb dX10_could_7 rfl (lv_at hl 2 rfl) ?_
    obtain ⟨z3, hz_z3, hf⟩ := o_bind hf
    refine k_calli (va_runS (As := [.int p2]) (rest := []) ⟨hx, hb, hml, hown, hts⟩ (c_X10_isCar l D cI cZ  H.size p2 z3 hz_z3) (va_cwS 1 hts gX10_could_X10_isCar rfl rfl rfl hd_X10_isCar ⟨Nat.le_of_ble_eq_true rfl, Nat.le_of_ble_eq_true rfl⟩) (k_preS hK hP hD hS hA hE [] (by decide) rfl) rfl rfl hl.1 rfl (lv_room (Nat.le_of_ble_eq_true rfl)) dX10_could_8 ⟨Nat.zero_le _, Nat.zero_le _⟩) hP hD hS hA [] [none, none, none, none, none, none, none, none, none, none, none, none, none, none, none, none, none, none, none] 0 rfl (by decide) (by decide) rfl rfl (fun H locs hP hD hS => ?_)
    have hP : va_P D vwCl (ceX th0 th1 th2 th3 th4 th5 th6 th7 th8 th9 ++ (ceW cI cZ th1 wheel1 wheel2 wheel3 wheel4 u_wheel ++ (ceW cI cZ th2 trial1 trial2 trial3 trial4 u_trial ++ (ceP cI cZ th3 pad1 u_pad ++ (ceT cI cZ th5 telling1 telling2 telling3 telling4 telling5 u_telling))))) H := hP
    have hD : va_D A (ceX th0 th1 th2 th3 th4 th5 th6 th7 th8 th9 ++ (ceW cI cZ th1 wheel1 wheel2 wheel3 wheel4 u_wheel ++ (ceW cI cZ th2 trial1 trial2 trial3 trial4 u_trial ++ (ceP cI cZ th3 pad1 u_pad ++ (ceT cI cZ th5 telling1 telling2 telling3 telling4 telling5 u_telling))))) := hD
    refine lv_if_ne (tgt := 16) hx hb dX10_could_11 (by decide) (fun c4 => ?_) (fun c4 => ?_)
    · have hf := (if_neg c4).symm.trans hf
      refine lv_iload_n hx hb dX10_could_16 rfl (lv_at hl 3 rfl) ?_
      refine lv_if_lt (tgt := 25) hx hb dX10_could_17 (by decide) (fun c5 => ?_) (fun c5 => ?_)
      · have hf := (if_pos c5).symm.trans hf
        refine lv_bipush (v := -2) hx hb dX10_could_25 (by decide) ?_
        exact k_iret (v := (-2 : Int32)) (u := (u_trial, u_telling)) hx hb hr hlocks hK hS eQ hf hP hD dX10_could_27
      · have hf := (if_neg c5).symm.trans hf
        refine lv_iload_n hx hb dX10_could_20 rfl (lv_at hl 3 rfl) ?_
        refine lv_iconst (v := 2) hx hb dX10_could_21 (by decide) ?_
        refine lv_icmp_le (tgt := 28) hx hb dX10_could_22 (by decide) (fun c6 => ?_) (fun c6 => ?_)
        · have hf := (if_pos c6).symm.trans hf
          refine lv_aload_n hx hb dX10_could_28 rfl (lv_at hl 0 rfl) ?_
          obtain ⟨z7, hz_z7, hf⟩ := o_bind hf
          refine k_calli (va_runV (As := []) (rest := []) ⟨hx, hb, hml, hown, hts⟩ (c_X10_refuseText l D cI cZ th0 th1 th2 th3 th4 th5 th6 th7 th8 th9 pad1 H.size u_pad z7 hz_z7) (cwV 0 hts gX10_could_X10_refuseText rfl rfl rfl ⟨rfl, hd_X10_refuseText⟩ ⟨Nat.le_of_ble_eq_true rfl, Nat.le_of_ble_eq_true rfl⟩) (k_preV hK hP hD hS hA hE [0, 11, 12] (by decide) rfl (ci := 7) rfl rfl) rfl rfl hl.1 rfl (lv_room (Nat.le_of_ble_eq_true rfl)) dX10_could_29 ⟨Nat.zero_le _, Nat.zero_le _⟩) hP hD hS hA [0, 11, 12] [some 0, none, none, none, none, none, none, none, none, none, none, some 1, some 2, none, none, none, none, none, none] 3 rfl (by decide) (by decide) rfl rfl (fun H locs hP hD hS => ?_)
          have hP : va_P D vwCl (ceX th0 th1 th2 th3 th4 th5 th6 th7 th8 th9 ++ (ceW cI cZ th1 wheel1 wheel2 wheel3 wheel4 u_wheel ++ (ceW cI cZ th2 trial1 trial2 trial3 trial4 u_trial ++ (ceP cI cZ th3 pad1 u_pad ++ (ceT cI cZ th5 telling1 telling2 telling3 telling4 telling5 u_telling))))) H := hP
          have hD : va_D A (ceX th0 th1 th2 th3 th4 th5 th6 th7 th8 th9 ++ (ceW cI cZ th1 wheel1 wheel2 wheel3 wheel4 u_wheel ++ (ceW cI cZ th2 trial1 trial2 trial3 trial4 u_trial ++ (ceP cI cZ th3 pad1 u_pad ++ (ceT cI cZ th5 telling1 telling2 telling3 telling4 telling5 u_telling))))) := hD
          refine lv_istore (lv' := [(4, .int z7.1), (0, .ref th0), (1, .int p1), (2, .int p2), (3, .int p3)]) hx hb dX10_could_32 hl (by decide) rfl (fun ls hl => ?_)
          refine lv_iload hx hb dX10_could_34 (lv_at hl 0 rfl) ?_
          refine lv_if_eq (tgt := 42) hx hb dX10_could_36 (by decide) (fun c8 => ?_) (fun c8 => ?_)
          · have hf := (if_pos c8).symm.trans hf
            refine lv_iconst (v := 0) hx hb dX10_could_42 (by decide) ?_
            refine lv_istore (lv' := [(5, .int (0 : Int32)), (4, .int z7.1), (0, .ref th0), (1, .int p1), (2, .int p2), (3, .int p3)]) hx hb dX10_could_43 hl (by decide) rfl (fun ls hl => ?_)
            refine lv_bipush (v := -6) hx hb dX10_could_45 (by decide) ?_
            refine lv_istore (lv' := [(6, .int (-6 : Int32)), (5, .int (0 : Int32)), (4, .int z7.1), (0, .ref th0), (1, .int p1), (2, .int p2), (3, .int p3)]) hx hb dX10_could_47 hl (by decide) rfl (fun ls hl => ?_)
            refine lv_bipush (v := -6) hx hb dX10_could_49 (by decide) ?_
            refine lv_istore (lv' := [(7, .int (-6 : Int32)), (6, .int (-6 : Int32)), (5, .int (0 : Int32)), (4, .int z7.1), (0, .ref th0), (1, .int p1), (2, .int p2), (3, .int p3)]) hx hb dX10_could_51 hl (by decide) rfl (fun ls hl => ?_)
            refine lv_iconst (v := 1) hx hb dX10_could_53 (by decide) ?_
            refine lv_istore (lv' := [(8, .int (1 : Int32)), (7, .int (-6 : Int32)), (6, .int (-6 : Int32)), (5, .int (0 : Int32)), (4, .int z7.1), (0, .ref th0), (1, .int p1), (2, .int p2), (3, .int p3)]) hx hb dX10_could_54 hl (by decide) rfl (fun ls hl => ?_)
            exact hL56 oF p1 p2 p3 (0 : Int32) (-6 : Int32) (-6 : Int32) (1 : Int32) u_trial u_telling _ _ ls (lv_sub hl [5, 6, 7, 8, 3, 2, 1, 0] rfl) hP hD hS hf
          · have hf := (if_neg c8).symm.trans hf
            refine lv_iload hx hb dX10_could_39 (lv_at hl 0 rfl) ?_
            exact k_iret (v := z7.1) (u := (u_trial, u_telling)) hx hb hr hlocks hK hS eQ hf hP hD dX10_could_41
        · have hf := (if_neg c6).symm.trans hf
          refine lv_bipush (v := -2) hx hb dX10_could_25 (by decide) ?_
          exact k_iret (v := (-2 : Int32)) (u := (u_trial, u_telling)) hx hb hr hlocks hK hS eQ hf hP hD dX10_could_27
    · have hf := (if_pos c4).symm.trans hf
      refine lv_iconst (v := -1) hx hb dX10_could_14 (by decide) ?_
      exact k_iret (v := (-1 : Int32)) (u := (u_trial, u_telling)) hx hb hr hlocks hK hS eQ hf hP hD dX10_could_15
theorem hd_X10_seen : yX10_seen.cls ≠ "java/lang/invoke/MethodHandle" ∧ yX10_seen.cls ≠ "java/lang/invoke/VarHandle" ∧ (parseMethodDescriptor yX10_seen.desc).map (fun d => d.parameters.length) = some 2 := by decide +kernel
set_option maxHeartbeats 4000000 in
set_option maxRecDepth 100000 in
theorem c_X10_seen (l : Launch) (D : va_G) (cI cZ : ClassId) (th0 : Nat) (th1 : Nat) (th2 : Nat) (th3 : Nat) (th4 : Nat) (th5 : Nat) (th6 : Nat) (th7 : Nat) (th8 : Nat) (th9 : Nat) (sights1 : Nat) (sights2 : Nat) (sz : Nat) (u_sights : sS) (p1 : Int32) (p2 : Int32) (z : Int32 × sS) (hf : f_X10_seen u_sights p1 p2 = some z) : Met l yX10_seen wsX10_seen rmX10_seen (va_Pc [.ref th0, .int p1, .int p2] (wPr D cI cZ (ceX th0 th1 th2 th3 th4 th5 th6 th7 th8 th9 ++ (ceS cI cZ th4 sights1 sights2 u_sights)) sz)) (va_Qi (fun (r : Int32) (v : sS) => (r, v) = z) (fun (v : sS) t => wPo D cI cZ (va_A (ceX th0 th1 th2 th3 th4 th5 th6 th7 th8 th9 ++ (ceS cI cZ th4 sights1 sights2 u_sights)) sz) (ceX th0 th1 th2 th3 th4 th5 th6 th7 th8 th9 ++ (ceS cI cZ th4 sights1 sights2 v)) t) (va_A (ceX th0 th1 th2 th3 th4 th5 th6 th7 th8 th9 ++ (ceS cI cZ th4 sights1 sights2 u_sights)) sz)) 0 0 (va_A (ceX th0 th1 th2 th3 th4 th5 th6 th7 th8 th9 ++ (ceS cI cZ th4 sights1 sights2 u_sights)) sz) := by
  refine k_enter (D := D) (cI := cI) (cZ := cZ) (wl := ceX th0 th1 th2 th3 th4 th5 th6 th7 th8 th9 ++ (ceS cI cZ th4 sights1 sights2 u_sights)) (sz := sz) (av := [.ref th0, .int p1, .int p2]) (cc := cX10_seen) (maxL := 3) (ret := (some .int)) (Qc := fun A => va_Qi (fun (r : Int32) (v : sS) => (r, v) = z) (fun (v : sS) t => wPo D cI cZ (A) (ceX th0 th1 th2 th3 th4 th5 th6 th7 th8 th9 ++ (ceS cI cZ th4 sights1 sights2 v)) t) (A)) (by decide) rfl (Nat.le_of_ble_eq_true rfl) ?_
  intro p e s m below meth c ls A Q H locs eQ hx hb hr hml hts hown hlocks hK hP hD hS hA hE hl
  have hown : s.vm.findClass RX10 = some m.cls := hown
  have hl : lv_has ls 3 [(0, .ref th0), (1, .int p1), (2, .int p2)] := hl
  have hi_X10 : ∀ w ∈ wsX100, w ∈ wsX10_seen := fun w h => List.mem_cons_of_mem _ (List.mem_append_left _ (List.mem_append_right _ h))
  rw [f_X10_seen] at hf
  refine lv_iload_n hx hb dX10_seen_0 rfl (lv_at hl 1 rfl) ?_
  obtain ⟨z1, hz_z1, hf⟩ := o_bind hf
  refine k_calli (va_runS (As := [.int p1]) (rest := []) ⟨hx, hb, hml, hown, hts⟩ (c_X10_isPerson l D cI cZ  H.size p1 z1 hz_z1) (va_cwS 1 hts gX10_seen_X10_isPerson rfl rfl rfl hd_X10_isPerson ⟨Nat.le_of_ble_eq_true rfl, Nat.le_of_ble_eq_true rfl⟩) (k_preS hK hP hD hS hA hE [] (by decide) rfl) rfl rfl hl.1 rfl (lv_room (Nat.le_of_ble_eq_true rfl)) dX10_seen_1 ⟨Nat.zero_le _, Nat.zero_le _⟩) hP hD hS hA [] [none, none, none, none] 0 rfl (by decide) (by decide) rfl rfl (fun H locs hP hD hS => ?_)
  have hP : va_P D vwCl (ceX th0 th1 th2 th3 th4 th5 th6 th7 th8 th9 ++ (ceS cI cZ th4 sights1 sights2 u_sights)) H := hP
  have hD : va_D A (ceX th0 th1 th2 th3 th4 th5 th6 th7 th8 th9 ++ (ceS cI cZ th4 sights1 sights2 u_sights)) := hD
  refine lv_if_eq (tgt := 14) hx hb dX10_seen_4 (by decide) (fun c2 => ?_) (fun c2 => ?_)
  · have hf := (if_pos c2).symm.trans hf
    refine lv_iconst (v := -1) hx hb dX10_seen_14 (by decide) ?_
    exact k_iret (v := (-1 : Int32)) (u := u_sights) hx hb hr hlocks hK hS eQ hf hP hD dX10_seen_15
  · have hf := (if_neg c2).symm.trans hf
    refine lv_iload_n hx hb dX10_seen_7 rfl (lv_at hl 2 rfl) ?_
    obtain ⟨z3, hz_z3, hf⟩ := o_bind hf
    refine k_calli (va_runS (As := [.int p2]) (rest := []) ⟨hx, hb, hml, hown, hts⟩ (c_X10_isCar l D cI cZ  H.size p2 z3 hz_z3) (va_cwS 1 hts gX10_seen_X10_isCar rfl rfl rfl hd_X10_isCar ⟨Nat.le_of_ble_eq_true rfl, Nat.le_of_ble_eq_true rfl⟩) (k_preS hK hP hD hS hA hE [] (by decide) rfl) rfl rfl hl.1 rfl (lv_room (Nat.le_of_ble_eq_true rfl)) dX10_seen_8 ⟨Nat.zero_le _, Nat.zero_le _⟩) hP hD hS hA [] [none, none, none, none] 0 rfl (by decide) (by decide) rfl rfl (fun H locs hP hD hS => ?_)
    have hP : va_P D vwCl (ceX th0 th1 th2 th3 th4 th5 th6 th7 th8 th9 ++ (ceS cI cZ th4 sights1 sights2 u_sights)) H := hP
    have hD : va_D A (ceX th0 th1 th2 th3 th4 th5 th6 th7 th8 th9 ++ (ceS cI cZ th4 sights1 sights2 u_sights)) := hD
    refine lv_if_ne (tgt := 16) hx hb dX10_seen_11 (by decide) (fun c4 => ?_) (fun c4 => ?_)
    · have hf := (if_neg c4).symm.trans hf
      refine lv_aload_n hx hb dX10_seen_16 rfl (lv_at hl 0 rfl) ?_
      refine va_get (D := D) (ci := 7) (v := .ref th4) (C := RX10) (T := TX10) (N := 9) hx hb hts hi_X10 hown hK hP 0 rfl rfl 3 (by decide) (hts (.fieldLink RX10 29 "FairWheel" "sights" "LFairWheel$Sights;") (List.mem_of_getElem? (i := 1) rfl)) (fun _ h9 => h9) rfl dX10_seen_17 ?_
      obtain ⟨z5, hz_z5, hf⟩ := o_bind hf
      refine k_calli (va_runV (As := []) (rest := []) ⟨hx, hb, hml, hown, hts⟩ (c_X6_count l D cI cZ th4 sights1 sights2 H.size u_sights z5 hz_z5) (cwV 0 hts gX10_seen_X6_count rfl rfl rfl ⟨rfl, hd_X6_count⟩ ⟨Nat.le_of_ble_eq_true rfl, Nat.le_of_ble_eq_true rfl⟩) (k_preV hK hP hD hS hA hE [1, 2, 3] (by decide) rfl (ci := 3) rfl rfl) rfl rfl hl.1 rfl (lv_room (Nat.le_of_ble_eq_true rfl)) dX10_seen_20 ⟨Nat.zero_le _, Nat.zero_le _⟩) hP hD hS hA [1, 2, 3] [none, some 0, some 1, some 2] 3 rfl (by decide) (by decide) rfl rfl (fun H locs hP hD hS => ?_)
      have hP : va_P D vwCl (ceX th0 th1 th2 th3 th4 th5 th6 th7 th8 th9 ++ (ceS cI cZ th4 sights1 sights2 u_sights)) H := hP
      have hD : va_D A (ceX th0 th1 th2 th3 th4 th5 th6 th7 th8 th9 ++ (ceS cI cZ th4 sights1 sights2 u_sights)) := hD
      refine lv_bipush (v := 6) hx hb dX10_seen_23 (by decide) ?_
      refine lv_icmp_lt (tgt := 31) hx hb dX10_seen_25 (by decide) (fun c6 => ?_) (fun c6 => ?_)
      · have hf := (if_pos c6).symm.trans hf
        refine lv_aload_n hx hb dX10_seen_31 rfl (lv_at hl 0 rfl) ?_
        refine va_get (D := D) (ci := 7) (v := .ref th4) (C := RX10) (T := TX10) (N := 9) hx hb hts hi_X10 hown hK hP 0 rfl rfl 3 (by decide) (hts (.fieldLink RX10 29 "FairWheel" "sights" "LFairWheel$Sights;") (List.mem_of_getElem? (i := 1) rfl)) (fun _ h9 => h9) rfl dX10_seen_32 ?_
        refine lv_iload_n hx hb dX10_seen_35 rfl (lv_at hl 1 rfl) ?_
        refine lv_iload_n hx hb dX10_seen_36 rfl (lv_at hl 2 rfl) ?_
        obtain ⟨z7, hz_z7, hf⟩ := o_bind hf
        refine k_callv (va_runV (As := [.int p1, .int p2]) (rest := []) ⟨hx, hb, hml, hown, hts⟩ (c_X6_add l D cI cZ th4 sights1 sights2 H.size u_sights p1 p2 z7 hz_z7) (cwV 2 hts gX10_seen_X6_add rfl rfl rfl ⟨rfl, hd_X6_add⟩ ⟨Nat.le_of_ble_eq_true rfl, Nat.le_of_ble_eq_true rfl⟩) (k_preV hK hP hD hS hA hE [1, 2, 3] (by decide) rfl (ci := 3) rfl rfl) rfl rfl hl.1 rfl (lv_room (Nat.le_of_ble_eq_true rfl)) dX10_seen_37 ⟨Nat.zero_le _, Nat.zero_le _⟩) hP hD hS hA [1, 2, 3] [none, some 0, some 1, some 2] 3 rfl (by decide) (by decide) rfl rfl (fun H locs hP hD hS => ?_)
        have hP : va_P D vwCl (ceX th0 th1 th2 th3 th4 th5 th6 th7 th8 th9 ++ (ceS cI cZ th4 sights1 sights2 z7)) H := hP
        have hD : va_D A (ceX th0 th1 th2 th3 th4 th5 th6 th7 th8 th9 ++ (ceS cI cZ th4 sights1 sights2 z7)) := hD
        refine lv_aload_n hx hb dX10_seen_40 rfl (lv_at hl 0 rfl) ?_
        refine va_get (D := D) (ci := 7) (v := .ref th4) (C := RX10) (T := TX10) (N := 9) hx hb hts hi_X10 hown hK hP 0 rfl rfl 3 (by decide) (hts (.fieldLink RX10 29 "FairWheel" "sights" "LFairWheel$Sights;") (List.mem_of_getElem? (i := 1) rfl)) (fun _ h9 => h9) rfl dX10_seen_41 ?_
        obtain ⟨z8, hz_z8, hf⟩ := o_bind hf
        refine k_calli (va_runV (As := []) (rest := []) ⟨hx, hb, hml, hown, hts⟩ (c_X6_count l D cI cZ th4 sights1 sights2 H.size z7 z8 hz_z8) (cwV 0 hts gX10_seen_X6_count rfl rfl rfl ⟨rfl, hd_X6_count⟩ ⟨Nat.le_of_ble_eq_true rfl, Nat.le_of_ble_eq_true rfl⟩) (k_preV hK hP hD hS hA hE [1, 2, 3] (by decide) rfl (ci := 3) rfl rfl) rfl rfl hl.1 rfl (lv_room (Nat.le_of_ble_eq_true rfl)) dX10_seen_44 ⟨Nat.zero_le _, Nat.zero_le _⟩) hP hD hS hA [1, 2, 3] [none, some 0, some 1, some 2] 3 rfl (by decide) (by decide) rfl rfl (fun H locs hP hD hS => ?_)
        have hP : va_P D vwCl (ceX th0 th1 th2 th3 th4 th5 th6 th7 th8 th9 ++ (ceS cI cZ th4 sights1 sights2 z7)) H := hP
        have hD : va_D A (ceX th0 th1 th2 th3 th4 th5 th6 th7 th8 th9 ++ (ceS cI cZ th4 sights1 sights2 z7)) := hD
        exact k_iret (v := z8.1) (u := z7) hx hb hr hlocks hK hS eQ hf hP hD dX10_seen_47
      · have hf := (if_neg c6).symm.trans hf
        refine lv_bipush (v := -4) hx hb dX10_seen_28 (by decide) ?_
        exact k_iret (v := (-4 : Int32)) (u := u_sights) hx hb hr hlocks hK hS eQ hf hP hD dX10_seen_30
    · have hf := (if_pos c4).symm.trans hf
      refine lv_iconst (v := -1) hx hb dX10_seen_14 (by decide) ?_
      exact k_iret (v := (-1 : Int32)) (u := u_sights) hx hb hr hlocks hK hS eQ hf hP hD dX10_seen_15
theorem hd_X10_forget : yX10_forget.cls ≠ "java/lang/invoke/MethodHandle" ∧ yX10_forget.cls ≠ "java/lang/invoke/VarHandle" ∧ (parseMethodDescriptor yX10_forget.desc).map (fun d => d.parameters.length) = some 0 := by decide +kernel
set_option maxHeartbeats 4000000 in
set_option maxRecDepth 100000 in
theorem c_X10_forget (l : Launch) (D : va_G) (cI cZ : ClassId) (th0 : Nat) (th1 : Nat) (th2 : Nat) (th3 : Nat) (th4 : Nat) (th5 : Nat) (th6 : Nat) (th7 : Nat) (th8 : Nat) (th9 : Nat) (sights1 : Nat) (sights2 : Nat) (sz : Nat) (u_sights : sS) (z : Int32 × sS) (hf : f_X10_forget u_sights = some z) : Met l yX10_forget wsX10_forget rmX10_forget (va_Pc [.ref th0] (wPr D cI cZ (ceX th0 th1 th2 th3 th4 th5 th6 th7 th8 th9 ++ (ceS cI cZ th4 sights1 sights2 u_sights)) sz)) (va_Qi (fun (r : Int32) (v : sS) => (r, v) = z) (fun (v : sS) t => wPo D cI cZ (va_A (ceX th0 th1 th2 th3 th4 th5 th6 th7 th8 th9 ++ (ceS cI cZ th4 sights1 sights2 u_sights)) sz) (ceX th0 th1 th2 th3 th4 th5 th6 th7 th8 th9 ++ (ceS cI cZ th4 sights1 sights2 v)) t) (va_A (ceX th0 th1 th2 th3 th4 th5 th6 th7 th8 th9 ++ (ceS cI cZ th4 sights1 sights2 u_sights)) sz)) 0 0 (va_A (ceX th0 th1 th2 th3 th4 th5 th6 th7 th8 th9 ++ (ceS cI cZ th4 sights1 sights2 u_sights)) sz) := by
  refine k_enter (D := D) (cI := cI) (cZ := cZ) (wl := ceX th0 th1 th2 th3 th4 th5 th6 th7 th8 th9 ++ (ceS cI cZ th4 sights1 sights2 u_sights)) (sz := sz) (av := [.ref th0]) (cc := cX10_forget) (maxL := 2) (ret := (some .int)) (Qc := fun A => va_Qi (fun (r : Int32) (v : sS) => (r, v) = z) (fun (v : sS) t => wPo D cI cZ (A) (ceX th0 th1 th2 th3 th4 th5 th6 th7 th8 th9 ++ (ceS cI cZ th4 sights1 sights2 v)) t) (A)) (by decide) rfl (Nat.le_of_ble_eq_true rfl) ?_
  intro p e s m below meth c ls A Q H locs eQ hx hb hr hml hts hown hlocks hK hP hD hS hA hE hl
  have hown : s.vm.findClass RX10 = some m.cls := hown
  have hl : lv_has ls 2 [(0, .ref th0)] := hl
  have hi_X10 : ∀ w ∈ wsX100, w ∈ wsX10_forget := fun w h => List.mem_cons_of_mem _ (List.mem_append_left _ (List.mem_append_right _ h))
  rw [f_X10_forget] at hf
  refine lv_aload_n hx hb dX10_forget_0 rfl (lv_at hl 0 rfl) ?_
  refine va_get (D := D) (ci := 7) (v := .ref th4) (C := RX10) (T := TX10) (N := 9) hx hb hts hi_X10 hown hK hP 0 rfl rfl 3 (by decide) (hts (.fieldLink RX10 29 "FairWheel" "sights" "LFairWheel$Sights;") (List.mem_of_getElem? (i := 1) rfl)) (fun _ h9 => h9) rfl dX10_forget_1 ?_
  obtain ⟨z1, hz_z1, hf⟩ := o_bind hf
  refine k_calli (va_runV (As := []) (rest := []) ⟨hx, hb, hml, hown, hts⟩ (c_X6_count l D cI cZ th4 sights1 sights2 H.size u_sights z1 hz_z1) (cwV 0 hts gX10_forget_X6_count rfl rfl rfl ⟨rfl, hd_X6_count⟩ ⟨Nat.le_of_ble_eq_true rfl, Nat.le_of_ble_eq_true rfl⟩) (k_preV hK hP hD hS hA hE [1, 2, 3] (by decide) rfl (ci := 3) rfl rfl) rfl rfl hl.1 rfl (lv_room (Nat.le_of_ble_eq_true rfl)) dX10_forget_4 ⟨Nat.zero_le _, Nat.zero_le _⟩) hP hD hS hA [1, 2, 3] [none, some 0, some 1, some 2] 3 rfl (by decide) (by decide) rfl rfl (fun H locs hP hD hS => ?_)
  have hP : va_P D vwCl (ceX th0 th1 th2 th3 th4 th5 th6 th7 th8 th9 ++ (ceS cI cZ th4 sights1 sights2 u_sights)) H := hP
  have hD : va_D A (ceX th0 th1 th2 th3 th4 th5 th6 th7 th8 th9 ++ (ceS cI cZ th4 sights1 sights2 u_sights)) := hD
  refine lv_istore_n (lv' := [(1, .int z1.1), (0, .ref th0)]) hx hb dX10_forget_7 rfl hl (by decide) rfl (fun ls hl => ?_)
  refine lv_aload_n hx hb dX10_forget_8 rfl (lv_at hl 1 rfl) ?_
  refine va_get (D := D) (ci := 7) (v := .ref th4) (C := RX10) (T := TX10) (N := 9) hx hb hts hi_X10 hown hK hP 0 rfl rfl 3 (by decide) (hts (.fieldLink RX10 29 "FairWheel" "sights" "LFairWheel$Sights;") (List.mem_of_getElem? (i := 1) rfl)) (fun _ h9 => h9) rfl dX10_forget_9 ?_
  obtain ⟨z2, hz_z2, hf⟩ := o_bind hf
  refine k_callv (va_runV (As := []) (rest := []) ⟨hx, hb, hml, hown, hts⟩ (c_X6_clear l D cI cZ th4 sights1 sights2 H.size u_sights z2 hz_z2) (cwV 0 hts gX10_forget_X6_clear rfl rfl rfl ⟨rfl, hd_X6_clear⟩ ⟨Nat.le_of_ble_eq_true rfl, Nat.le_of_ble_eq_true rfl⟩) (k_preV hK hP hD hS hA hE [1, 2, 3] (by decide) rfl (ci := 3) rfl rfl) rfl rfl hl.1 rfl (lv_room (Nat.le_of_ble_eq_true rfl)) dX10_forget_12 ⟨Nat.zero_le _, Nat.zero_le _⟩) hP hD hS hA [1, 2, 3] [none, some 0, some 1, some 2] 3 rfl (by decide) (by decide) rfl rfl (fun H locs hP hD hS => ?_)
  have hP : va_P D vwCl (ceX th0 th1 th2 th3 th4 th5 th6 th7 th8 th9 ++ (ceS cI cZ th4 sights1 sights2 z2)) H := hP
  have hD : va_D A (ceX th0 th1 th2 th3 th4 th5 th6 th7 th8 th9 ++ (ceS cI cZ th4 sights1 sights2 z2)) := hD
  refine lv_iload_n hx hb dX10_forget_15 rfl (lv_at hl 0 rfl) ?_
  exact k_iret (v := z1.1) (u := z2) hx hb hr hlocks hK hS eQ hf hP hD dX10_forget_16
theorem hd_X10_filled : yX10_filled.cls ≠ "java/lang/invoke/MethodHandle" ∧ yX10_filled.cls ≠ "java/lang/invoke/VarHandle" ∧ (parseMethodDescriptor yX10_filled.desc).map (fun d => d.parameters.length) = some 1 := by decide +kernel
set_option maxHeartbeats 4000000 in
set_option maxRecDepth 100000 in
theorem c_X10_filled (l : Launch) (D : va_G) (cI cZ : ClassId) (th0 : Nat) (th1 : Nat) (th2 : Nat) (th3 : Nat) (th4 : Nat) (th5 : Nat) (th6 : Nat) (th7 : Nat) (th8 : Nat) (th9 : Nat) (wheel1 : Nat) (wheel2 : Nat) (wheel3 : Nat) (wheel4 : Nat) (pad1 : Nat) (sights1 : Nat) (sights2 : Nat) (telling1 : Nat) (telling2 : Nat) (telling3 : Nat) (telling4 : Nat) (telling5 : Nat) (sz : Nat) (u_wheel : sW) (u_pad : sP) (u_sights : sS) (u_telling : sT) (p1 : Int32) (z : Int32 × sT) (hf : f_X10_filled u_wheel u_pad u_sights u_telling p1 = some z) : Met l yX10_filled wsX10_filled rmX10_filled (va_Pc [.ref th0, .int p1] (wPr D cI cZ (ceX th0 th1 th2 th3 th4 th5 th6 th7 th8 th9 ++ (ceW cI cZ th1 wheel1 wheel2 wheel3 wheel4 u_wheel ++ (ceP cI cZ th3 pad1 u_pad ++ (ceS cI cZ th4 sights1 sights2 u_sights ++ (ceT cI cZ th5 telling1 telling2 telling3 telling4 telling5 u_telling))))) sz)) (va_Qi (fun (r : Int32) (v : sT) => (r, v) = z) (fun (v : sT) t => wPo D cI cZ (va_A (ceX th0 th1 th2 th3 th4 th5 th6 th7 th8 th9 ++ (ceW cI cZ th1 wheel1 wheel2 wheel3 wheel4 u_wheel ++ (ceP cI cZ th3 pad1 u_pad ++ (ceS cI cZ th4 sights1 sights2 u_sights ++ (ceT cI cZ th5 telling1 telling2 telling3 telling4 telling5 u_telling))))) sz) (ceX th0 th1 th2 th3 th4 th5 th6 th7 th8 th9 ++ (ceW cI cZ th1 wheel1 wheel2 wheel3 wheel4 u_wheel ++ (ceP cI cZ th3 pad1 u_pad ++ (ceS cI cZ th4 sights1 sights2 u_sights ++ (ceT cI cZ th5 telling1 telling2 telling3 telling4 telling5 v))))) t) (va_A (ceX th0 th1 th2 th3 th4 th5 th6 th7 th8 th9 ++ (ceW cI cZ th1 wheel1 wheel2 wheel3 wheel4 u_wheel ++ (ceP cI cZ th3 pad1 u_pad ++ (ceS cI cZ th4 sights1 sights2 u_sights ++ (ceT cI cZ th5 telling1 telling2 telling3 telling4 telling5 u_telling))))) sz)) 0 0 (va_A (ceX th0 th1 th2 th3 th4 th5 th6 th7 th8 th9 ++ (ceW cI cZ th1 wheel1 wheel2 wheel3 wheel4 u_wheel ++ (ceP cI cZ th3 pad1 u_pad ++ (ceS cI cZ th4 sights1 sights2 u_sights ++ (ceT cI cZ th5 telling1 telling2 telling3 telling4 telling5 u_telling))))) sz) := by
  refine k_enter (D := D) (cI := cI) (cZ := cZ) (wl := ceX th0 th1 th2 th3 th4 th5 th6 th7 th8 th9 ++ (ceW cI cZ th1 wheel1 wheel2 wheel3 wheel4 u_wheel ++ (ceP cI cZ th3 pad1 u_pad ++ (ceS cI cZ th4 sights1 sights2 u_sights ++ (ceT cI cZ th5 telling1 telling2 telling3 telling4 telling5 u_telling))))) (sz := sz) (av := [.ref th0, .int p1]) (cc := cX10_filled) (maxL := 7) (ret := (some .int)) (Qc := fun A => va_Qi (fun (r : Int32) (v : sT) => (r, v) = z) (fun (v : sT) t => wPo D cI cZ (A) (ceX th0 th1 th2 th3 th4 th5 th6 th7 th8 th9 ++ (ceW cI cZ th1 wheel1 wheel2 wheel3 wheel4 u_wheel ++ (ceP cI cZ th3 pad1 u_pad ++ (ceS cI cZ th4 sights1 sights2 u_sights ++ (ceT cI cZ th5 telling1 telling2 telling3 telling4 telling5 v))))) t) (A)) (by decide) rfl (Nat.le_of_ble_eq_true rfl) ?_
  intro p e s m below meth c ls A Q H locs eQ hx hb hr hml hts hown hlocks hK hP hD hS hA hE hl
  have hown : s.vm.findClass RX10 = some m.cls := hown
  have hl : lv_has ls 7 [(0, .ref th0), (1, .int p1)] := hl
  have hi_X10 : ∀ w ∈ wsX100, w ∈ wsX10_filled := fun w h => List.mem_cons_of_mem _ (List.mem_append_left _ (List.mem_append_left _ (List.mem_append_left _ (List.mem_append_left _ (List.mem_append_right _ h)))))
  have hJ105 : ∀ (v1 : Int32) (v2 : Int32) (v5 : Int32) (s0 : Int32) (u_telling : sT) (H : Heap) (locs : List Loc) (ls : Array Slot), lv_has ls 7 [(1, .int v1), (2, .int v2), (5, .int v5)] → va_P D vwCl (ceX th0 th1 th2 th3 th4 th5 th6 th7 th8 th9 ++ (ceW cI cZ th1 wheel1 wheel2 wheel3 wheel4 u_wheel ++ (ceP cI cZ th3 pad1 u_pad ++ (ceS cI cZ th4 sights1 sights2 u_sights ++ (ceT cI cZ th5 telling1 telling2 telling3 telling4 telling5 u_telling))))) H → va_D A (ceX th0 th1 th2 th3 th4 th5 th6 th7 th8 th9 ++ (ceW cI cZ th1 wheel1 wheel2 wheel3 wheel4 u_wheel ++ (ceP cI cZ th3 pad1 u_pad ++ (ceS cI cZ th4 sights1 sights2 u_sights ++ (ceT cI cZ th5 telling1 telling2 telling3 telling4 telling5 u_telling))))) → va_S A s.heap H locs → f_X10_filled_J105 u_wheel u_pad u_sights v1 v2 v5 s0 u_telling = some z → W p l e (headSpec wsX10_filled rmX10_filled).room s m ([.ref th0, .int p1] : List Value).toArray below meth c H locs 0 0 Q (F0 m 105 ls [.int s0]) := by
    intro  v1 v2 v5 s0 u_telling H locs ls hl hP hD hS hf
    rw [f_X10_filled_J105] at hf
    refine lv_istore (lv' := [(6, .int s0), (1, .int v1), (2, .int v2), (5, .int v5)]) hx hb dX10_filled_105 hl (by decide) rfl (fun ls hl => ?_)
    refine lv_iload hx hb dX10_filled_107 (lv_at hl 0 rfl) ?_
    refine lv_if_eq (tgt := 117) hx hb dX10_filled_109 (by decide) (fun c8 => ?_) (fun c8 => ?_)
    · have hf := (if_pos c8).symm.trans hf
      refine lv_iload hx hb dX10_filled_117 (lv_at hl 3 rfl) ?_
      refine lv_iload_n hx hb dX10_filled_119 rfl (lv_at hl 1 rfl) ?_
      refine lv_iload_n hx hb dX10_filled_120 rfl (lv_at hl 2 rfl) ?_
      obtain ⟨z9, hz_z9, hf⟩ := o_bind hf
      refine k_calli (va_runS (As := [.int v5, .int v1, .int v2]) (rest := []) ⟨hx, hb, hml, hown, hts⟩ (c_X1_personAt l D cI cZ  H.size v5 v1 v2 z9 hz_z9) (va_cwS 3 hts gX10_filled_X1_personAt rfl rfl rfl hd_X1_personAt ⟨Nat.le_of_ble_eq_true rfl, Nat.le_of_ble_eq_true rfl⟩) (k_preS hK hP hD hS hA hE [] (by decide) rfl) rfl rfl hl.1 rfl (lv_room (Nat.le_of_ble_eq_true rfl)) dX10_filled_121 ⟨Nat.zero_le _, Nat.zero_le _⟩) hP hD hS hA [] [none, none, none, none, none, none, none, none, none, none, none, none, none, none, none, none, none] 0 rfl (by decide) (by decide) rfl rfl (fun H locs hP hD hS => ?_)
      have hP : va_P D vwCl (ceX th0 th1 th2 th3 th4 th5 th6 th7 th8 th9 ++ (ceW cI cZ th1 wheel1 wheel2 wheel3 wheel4 u_wheel ++ (ceP cI cZ th3 pad1 u_pad ++ (ceS cI cZ th4 sights1 sights2 u_sights ++ (ceT cI cZ th5 telling1 telling2 telling3 telling4 telling5 u_telling))))) H := hP
      have hD : va_D A (ceX th0 th1 th2 th3 th4 th5 th6 th7 th8 th9 ++ (ceW cI cZ th1 wheel1 wheel2 wheel3 wheel4 u_wheel ++ (ceP cI cZ th3 pad1 u_pad ++ (ceS cI cZ th4 sights1 sights2 u_sights ++ (ceT cI cZ th5 telling1 telling2 telling3 telling4 telling5 u_telling))))) := hD
      exact k_iret (v := z9.1) (u := u_telling) hx hb hr hlocks hK hS eQ hf hP hD dX10_filled_124
    · have hf := (if_neg c8).symm.trans hf
      refine lv_bipush (v := -6) hx hb dX10_filled_112 (by decide) ?_
      refine lv_goto (tgt := 124) hx hb dX10_filled_114 (by decide) ?_
      exact k_iret (v := (-6 : Int32)) (u := u_telling) hx hb hr hlocks hK hS eQ hf hP hD dX10_filled_124
  have hL38 : ∀ (n : Nat), ∀ (v1 : Int32) (v2 : Int32) (v3 : Int32) (v4 : Int32) (v5 : Int32) (v6 : Int32) (u_telling : sT) (H : Heap) (locs : List Loc) (ls : Array Slot), lv_has ls 7 [(0, .ref th0), (1, .int v1), (2, .int v2), (3, .int v3), (4, .int v4), (5, .int v5), (6, .int v6)] → va_P D vwCl (ceX th0 th1 th2 th3 th4 th5 th6 th7 th8 th9 ++ (ceW cI cZ th1 wheel1 wheel2 wheel3 wheel4 u_wheel ++ (ceP cI cZ th3 pad1 u_pad ++ (ceS cI cZ th4 sights1 sights2 u_sights ++ (ceT cI cZ th5 telling1 telling2 telling3 telling4 telling5 u_telling))))) H → va_D A (ceX th0 th1 th2 th3 th4 th5 th6 th7 th8 th9 ++ (ceW cI cZ th1 wheel1 wheel2 wheel3 wheel4 u_wheel ++ (ceP cI cZ th3 pad1 u_pad ++ (ceS cI cZ th4 sights1 sights2 u_sights ++ (ceT cI cZ th5 telling1 telling2 telling3 telling4 telling5 u_telling))))) → va_S A s.heap H locs → f_X10_filled_L38 u_wheel u_pad u_sights n v1 v2 v3 v4 v5 v6 u_telling = some z → W p l e (headSpec wsX10_filled rmX10_filled).room s m ([.ref th0, .int p1] : List Value).toArray below meth c H locs 0 0 Q (F0 m 38 ls []) := by
    intro n
    induction n with
    | zero =>
      intro v1 v2 v3 v4 v5 v6 u_telling H locs ls hl hP hD hS hf
      exact absurd (show (none : Option (Int32 × sT)) = some z from hf) (fun h => by cases h)
    | succ n ih =>
      intro v1 v2 v3 v4 v5 v6 u_telling H locs ls hl hP hD hS hf
      rw [f_X10_filled_L38] at hf
      refine lv_iload hx hb dX10_filled_38 (lv_at hl 6 rfl) ?_
      refine lv_iload_n hx hb dX10_filled_40 rfl (lv_at hl 3 rfl) ?_
      refine lv_icmp_ge (tgt := 78) hx hb dX10_filled_41 (by decide) (fun c5 => ?_) (fun c5 => ?_)
      · have hf := (if_pos c5).symm.trans hf
        refine lv_iload_n hx hb dX10_filled_78 rfl (lv_at hl 1 rfl) ?_
        refine lv_iconst (v := -1) hx hb dX10_filled_79 (by decide) ?_
        refine lv_icmp_ne (tgt := 86) hx hb dX10_filled_80 (by decide) (fun c6 => ?_) (fun c6 => ?_)
        · have hf := (if_neg c6).symm.trans hf
          refine lv_iload hx hb dX10_filled_86 (lv_at hl 4 rfl) ?_
          refine lv_if_eq (tgt := 100) hx hb dX10_filled_88 (by decide) (fun c7 => ?_) (fun c7 => ?_)
          · have hf := (if_pos c7).symm.trans hf
            refine lv_iconst (v := 1) hx hb dX10_filled_100 (by decide) ?_
            refine lv_goto (tgt := 105) hx hb dX10_filled_101 (by decide) ?_
            exact hJ105 v1 v2 v5 (1 : Int32) u_telling _ _ ls (lv_sub hl [1, 2, 5] rfl) hP hD hS hf
          · have hf := (if_neg c7).symm.trans hf
            refine lv_iload_n hx hb dX10_filled_91 rfl (lv_at hl 1 rfl) ?_
            refine lv_if_lt (tgt := 100) hx hb dX10_filled_92 (by decide) (fun c10 => ?_) (fun c10 => ?_)
            · have hf := (if_pos c10).symm.trans hf
              refine lv_iconst (v := 1) hx hb dX10_filled_100 (by decide) ?_
              refine lv_goto (tgt := 105) hx hb dX10_filled_101 (by decide) ?_
              exact hJ105 v1 v2 v5 (1 : Int32) u_telling _ _ ls (lv_sub hl [1, 2, 5] rfl) hP hD hS hf
            · have hf := (if_neg c10).symm.trans hf
              refine lv_iload_n hx hb dX10_filled_95 rfl (lv_at hl 1 rfl) ?_
              refine lv_iload_n hx hb dX10_filled_96 rfl (lv_at hl 2 rfl) ?_
              refine lv_icmp_lt (tgt := 104) hx hb dX10_filled_97 (by decide) (fun c11 => ?_) (fun c11 => ?_)
              · have hf := (if_pos c11).symm.trans hf
                refine lv_iconst (v := 0) hx hb dX10_filled_104 (by decide) ?_
                exact hJ105 v1 v2 v5 (0 : Int32) u_telling _ _ ls (lv_sub hl [1, 2, 5] rfl) hP hD hS hf
              · have hf := (if_neg c11).symm.trans hf
                refine lv_iconst (v := 1) hx hb dX10_filled_100 (by decide) ?_
                refine lv_goto (tgt := 105) hx hb dX10_filled_101 (by decide) ?_
                exact hJ105 v1 v2 v5 (1 : Int32) u_telling _ _ ls (lv_sub hl [1, 2, 5] rfl) hP hD hS hf
        · have hf := (if_pos c6).symm.trans hf
          refine lv_iload hx hb dX10_filled_83 (lv_at hl 4 rfl) ?_
          exact k_iret (v := v4) (u := u_telling) hx hb hr hlocks hK hS eQ hf hP hD dX10_filled_85
      · have hf := (if_neg c5).symm.trans hf
        refine lv_aload_n hx hb dX10_filled_44 rfl (lv_at hl 0 rfl) ?_
        refine lv_iload hx hb dX10_filled_45 (lv_at hl 6 rfl) ?_
        obtain ⟨z12, hz_z12, hf⟩ := o_bind hf
        refine k_calli (va_runV (As := [.int v6]) (rest := []) ⟨hx, hb, hml, hown, hts⟩ (c_X10_holds l D cI cZ th0 th1 th2 th3 th4 th5 th6 th7 th8 th9 wheel1 wheel2 wheel3 wheel4 pad1 sights1 sights2 telling1 telling2 telling3 telling4 telling5 H.size u_wheel u_pad u_sights u_telling v6 z12 hz_z12) (cwV 1 hts gX10_filled_X10_holds rfl rfl rfl ⟨rfl, hd_X10_holds⟩ ⟨Nat.le_of_ble_eq_true rfl, Nat.le_of_ble_eq_true rfl⟩) (k_preV hK hP hD hS hA hE [0, 1, 2, 3, 4, 5, 6, 7, 8, 9, 10, 11, 12, 13, 14, 15, 16] (by decide) rfl (ci := 7) rfl rfl) rfl rfl hl.1 rfl (lv_room (Nat.le_of_ble_eq_true rfl)) dX10_filled_47 ⟨Nat.zero_le _, Nat.zero_le _⟩) hP hD hS hA [0, 1, 2, 3, 4, 5, 6, 7, 8, 9, 10, 11, 12, 13, 14, 15, 16] [some 0, some 1, some 2, some 3, some 4, some 5, some 6, some 7, some 8, some 9, some 10, some 11, some 12, some 13, some 14, some 15, some 16] 17 rfl (by decide) (by decide) rfl rfl (fun H locs hP hD hS => ?_)
        have hP : va_P D vwCl (ceX th0 th1 th2 th3 th4 th5 th6 th7 th8 th9 ++ (ceW cI cZ th1 wheel1 wheel2 wheel3 wheel4 u_wheel ++ (ceP cI cZ th3 pad1 u_pad ++ (ceS cI cZ th4 sights1 sights2 u_sights ++ (ceT cI cZ th5 telling1 telling2 telling3 telling4 telling5 z12.2))))) H := hP
        have hD : va_D A (ceX th0 th1 th2 th3 th4 th5 th6 th7 th8 th9 ++ (ceW cI cZ th1 wheel1 wheel2 wheel3 wheel4 u_wheel ++ (ceP cI cZ th3 pad1 u_pad ++ (ceS cI cZ th4 sights1 sights2 u_sights ++ (ceT cI cZ th5 telling1 telling2 telling3 telling4 telling5 z12.2))))) := hD
        refine lv_if_eq (tgt := 72) hx hb dX10_filled_50 (by decide) (fun c13 => ?_) (fun c13 => ?_)
        · have hf := (if_pos c13).symm.trans hf
          refine lv_iinc (v := (v6 + (1 : Int32))) (lv' := [(6, .int (v6 + (1 : Int32))), (0, .ref th0), (1, .int v1), (2, .int v2), (3, .int v3), (4, .int v4), (5, .int v5)]) hx hb dX10_filled_72 hl (k := 6) rfl rfl (by decide) rfl (fun ls hl => ?_)
          refine lv_goto (tgt := 38) hx hb dX10_filled_75 (by decide) ?_
          exact ih v1 v2 v3 v4 v5 (v6 + (1 : Int32)) z12.2 _ _ ls (lv_sub hl [1, 2, 3, 4, 5, 6, 0] rfl) hP hD hS hf
        · have hf := (if_neg c13).symm.trans hf
          refine lv_iinc (v := (v4 + (1 : Int32))) (lv' := [(4, .int (v4 + (1 : Int32))), (0, .ref th0), (1, .int v1), (2, .int v2), (3, .int v3), (5, .int v5), (6, .int v6)]) hx hb dX10_filled_53 hl (k := 4) rfl rfl (by decide) rfl (fun ls hl => ?_)
          refine lv_iload hx hb dX10_filled_56 (lv_at hl 5 rfl) ?_
          refine lv_bipush (v := -6) hx hb dX10_filled_58 (by decide) ?_
          refine lv_icmp_ne (tgt := 68) hx hb dX10_filled_60 (by decide) (fun c14 => ?_) (fun c14 => ?_)
          · have hf := (if_neg c14).symm.trans hf
            refine lv_iload hx hb dX10_filled_68 (lv_at hl 5 rfl) ?_
            refine lv_istore (lv' := [(5, .int v5), (4, .int (v4 + (1 : Int32))), (0, .ref th0), (1, .int v1), (2, .int v2), (3, .int v3), (6, .int v6)]) hx hb dX10_filled_70 hl (by decide) rfl (fun ls hl => ?_)
            refine lv_iinc (v := (v6 + (1 : Int32))) (lv' := [(6, .int (v6 + (1 : Int32))), (5, .int v5), (4, .int (v4 + (1 : Int32))), (0, .ref th0), (1, .int v1), (2, .int v2), (3, .int v3)]) hx hb dX10_filled_72 hl (k := 6) rfl rfl (by decide) rfl (fun ls hl => ?_)
            refine lv_goto (tgt := 38) hx hb dX10_filled_75 (by decide) ?_
            exact ih v1 v2 v3 (v4 + (1 : Int32)) v5 (v6 + (1 : Int32)) z12.2 _ _ ls (lv_sub hl [3, 4, 5, 6, 2, 1, 0] rfl) hP hD hS hf
          · have hf := (if_pos c14).symm.trans hf
            refine lv_iload hx hb dX10_filled_63 (lv_at hl 6 rfl) ?_
            refine lv_goto (tgt := 70) hx hb dX10_filled_65 (by decide) ?_
            refine lv_istore (lv' := [(5, .int v6), (4, .int (v4 + (1 : Int32))), (0, .ref th0), (1, .int v1), (2, .int v2), (3, .int v3), (6, .int v6)]) hx hb dX10_filled_70 hl (by decide) rfl (fun ls hl => ?_)
            refine lv_iinc (v := (v6 + (1 : Int32))) (lv' := [(6, .int (v6 + (1 : Int32))), (5, .int v6), (4, .int (v4 + (1 : Int32))), (0, .ref th0), (1, .int v1), (2, .int v2), (3, .int v3)]) hx hb dX10_filled_72 hl (k := 6) rfl rfl (by decide) rfl (fun ls hl => ?_)
            refine lv_goto (tgt := 38) hx hb dX10_filled_75 (by decide) ?_
            exact ih v1 v2 v3 (v4 + (1 : Int32)) v6 (v6 + (1 : Int32)) z12.2 _ _ ls (lv_sub hl [3, 4, 5, 6, 2, 1, 0] rfl) hP hD hS hf
  rw [f_X10_filled] at hf
  refine lv_aload_n hx hb dX10_filled_0 rfl (lv_at hl 0 rfl) ?_
  refine va_get (D := D) (ci := 7) (v := .ref th3) (C := RX10) (T := TX10) (N := 9) hx hb hts hi_X10 hown hK hP 0 rfl rfl 2 (by decide) (hts (.fieldLink RX10 22 "FairWheel" "pad" "LFairWheel$Pad;") (List.mem_of_getElem? (i := 1) rfl)) (fun _ h9 => h9) rfl dX10_filled_1 ?_
  obtain ⟨z1, hz_z1, hf⟩ := o_bind hf
  refine k_calli (va_runV (As := []) (rest := []) ⟨hx, hb, hml, hown, hts⟩ (c_X4_firstFault l D cI cZ th3 pad1 H.size u_pad z1 hz_z1) (cwV 0 hts gX10_filled_X4_firstFault rfl rfl rfl ⟨rfl, hd_X4_firstFault⟩ ⟨Nat.le_of_ble_eq_true rfl, Nat.le_of_ble_eq_true rfl⟩) (k_preV hK hP hD hS hA hE [6, 7] (by decide) rfl (ci := 1) rfl rfl) rfl rfl hl.1 rfl (lv_room (Nat.le_of_ble_eq_true rfl)) dX10_filled_4 ⟨Nat.zero_le _, Nat.zero_le _⟩) hP hD hS hA [6, 7] [none, none, none, none, none, none, some 0, some 1, none, none, none, none, none, none, none, none, none] 2 rfl (by decide) (by decide) rfl rfl (fun H locs hP hD hS => ?_)
  have hP : va_P D vwCl (ceX th0 th1 th2 th3 th4 th5 th6 th7 th8 th9 ++ (ceW cI cZ th1 wheel1 wheel2 wheel3 wheel4 u_wheel ++ (ceP cI cZ th3 pad1 u_pad ++ (ceS cI cZ th4 sights1 sights2 u_sights ++ (ceT cI cZ th5 telling1 telling2 telling3 telling4 telling5 u_telling))))) H := hP
  have hD : va_D A (ceX th0 th1 th2 th3 th4 th5 th6 th7 th8 th9 ++ (ceW cI cZ th1 wheel1 wheel2 wheel3 wheel4 u_wheel ++ (ceP cI cZ th3 pad1 u_pad ++ (ceS cI cZ th4 sights1 sights2 u_sights ++ (ceT cI cZ th5 telling1 telling2 telling3 telling4 telling5 u_telling))))) := hD
  refine lv_bipush (v := -6) hx hb dX10_filled_7 (by decide) ?_
  refine lv_icmp_eq (tgt := 15) hx hb dX10_filled_9 (by decide) (fun c2 => ?_) (fun c2 => ?_)
  · have hf := (if_pos c2).symm.trans hf
    refine lv_aload_n hx hb dX10_filled_15 rfl (lv_at hl 0 rfl) ?_
    refine va_get (D := D) (ci := 7) (v := .ref th3) (C := RX10) (T := TX10) (N := 9) hx hb hts hi_X10 hown hK hP 0 rfl rfl 2 (by decide) (hts (.fieldLink RX10 22 "FairWheel" "pad" "LFairWheel$Pad;") (List.mem_of_getElem? (i := 1) rfl)) (fun _ h9 => h9) rfl dX10_filled_16 ?_
    obtain ⟨z3, hz_z3, hf⟩ := o_bind hf
    refine k_calli (va_runV (As := []) (rest := []) ⟨hx, hb, hml, hown, hts⟩ (c_X4_asked l D cI cZ th3 pad1 H.size u_pad z3 hz_z3) (cwV 0 hts gX10_filled_X4_asked rfl rfl rfl ⟨rfl, hd_X4_asked⟩ ⟨Nat.le_of_ble_eq_true rfl, Nat.le_of_ble_eq_true rfl⟩) (k_preV hK hP hD hS hA hE [6, 7] (by decide) rfl (ci := 1) rfl rfl) rfl rfl hl.1 rfl (lv_room (Nat.le_of_ble_eq_true rfl)) dX10_filled_19 ⟨Nat.zero_le _, Nat.zero_le _⟩) hP hD hS hA [6, 7] [none, none, none, none, none, none, some 0, some 1, none, none, none, none, none, none, none, none, none] 2 rfl (by decide) (by decide) rfl rfl (fun H locs hP hD hS => ?_)
    have hP : va_P D vwCl (ceX th0 th1 th2 th3 th4 th5 th6 th7 th8 th9 ++ (ceW cI cZ th1 wheel1 wheel2 wheel3 wheel4 u_wheel ++ (ceP cI cZ th3 pad1 u_pad ++ (ceS cI cZ th4 sights1 sights2 u_sights ++ (ceT cI cZ th5 telling1 telling2 telling3 telling4 telling5 u_telling))))) H := hP
    have hD : va_D A (ceX th0 th1 th2 th3 th4 th5 th6 th7 th8 th9 ++ (ceW cI cZ th1 wheel1 wheel2 wheel3 wheel4 u_wheel ++ (ceP cI cZ th3 pad1 u_pad ++ (ceS cI cZ th4 sights1 sights2 u_sights ++ (ceT cI cZ th5 telling1 telling2 telling3 telling4 telling5 u_telling))))) := hD
    refine lv_istore_n (lv' := [(2, .int z3.1), (0, .ref th0), (1, .int p1)]) hx hb dX10_filled_22 rfl hl (by decide) rfl (fun ls hl => ?_)
    refine lv_iload_n hx hb dX10_filled_23 rfl (lv_at hl 0 rfl) ?_
    obtain ⟨z4, hz_z4, hf⟩ := o_bind hf
    refine k_calli (va_runS (As := [.int z3.1]) (rest := []) ⟨hx, hb, hml, hown, hts⟩ (c_X1_howMany l D cI cZ  H.size z3.1 z4 hz_z4) (va_cwS 1 hts gX10_filled_X1_howMany rfl rfl rfl hd_X1_howMany ⟨Nat.le_of_ble_eq_true rfl, Nat.le_of_ble_eq_true rfl⟩) (k_preS hK hP hD hS hA hE [] (by decide) rfl) rfl rfl hl.1 rfl (lv_room (Nat.le_of_ble_eq_true rfl)) dX10_filled_24 ⟨Nat.zero_le _, Nat.zero_le _⟩) hP hD hS hA [] [none, none, none, none, none, none, none, none, none, none, none, none, none, none, none, none, none] 0 rfl (by decide) (by decide) rfl rfl (fun H locs hP hD hS => ?_)
    have hP : va_P D vwCl (ceX th0 th1 th2 th3 th4 th5 th6 th7 th8 th9 ++ (ceW cI cZ th1 wheel1 wheel2 wheel3 wheel4 u_wheel ++ (ceP cI cZ th3 pad1 u_pad ++ (ceS cI cZ th4 sights1 sights2 u_sights ++ (ceT cI cZ th5 telling1 telling2 telling3 telling4 telling5 u_telling))))) H := hP
    have hD : va_D A (ceX th0 th1 th2 th3 th4 th5 th6 th7 th8 th9 ++ (ceW cI cZ th1 wheel1 wheel2 wheel3 wheel4 u_wheel ++ (ceP cI cZ th3 pad1 u_pad ++ (ceS cI cZ th4 sights1 sights2 u_sights ++ (ceT cI cZ th5 telling1 telling2 telling3 telling4 telling5 u_telling))))) := hD
    refine lv_istore_n (lv' := [(3, .int z4.1), (2, .int z3.1), (0, .ref th0), (1, .int p1)]) hx hb dX10_filled_27 rfl hl (by decide) rfl (fun ls hl => ?_)
    refine lv_iconst (v := 0) hx hb dX10_filled_28 (by decide) ?_
    refine lv_istore (lv' := [(4, .int (0 : Int32)), (3, .int z4.1), (2, .int z3.1), (0, .ref th0), (1, .int p1)]) hx hb dX10_filled_29 hl (by decide) rfl (fun ls hl => ?_)
    refine lv_bipush (v := -6) hx hb dX10_filled_31 (by decide) ?_
    refine lv_istore (lv' := [(5, .int (-6 : Int32)), (4, .int (0 : Int32)), (3, .int z4.1), (2, .int z3.1), (0, .ref th0), (1, .int p1)]) hx hb dX10_filled_33 hl (by decide) rfl (fun ls hl => ?_)
    refine lv_iconst (v := 0) hx hb dX10_filled_35 (by decide) ?_
    refine lv_istore (lv' := [(6, .int (0 : Int32)), (5, .int (-6 : Int32)), (4, .int (0 : Int32)), (3, .int z4.1), (2, .int z3.1), (0, .ref th0), (1, .int p1)]) hx hb dX10_filled_36 hl (by decide) rfl (fun ls hl => ?_)
    exact hL38 oF p1 z3.1 z4.1 (0 : Int32) (-6 : Int32) (0 : Int32) u_telling _ _ ls (lv_sub hl [5, 6, 4, 3, 2, 1, 0] rfl) hP hD hS hf
  · have hf := (if_neg c2).symm.trans hf
    refine lv_bipush (v := -5) hx hb dX10_filled_12 (by decide) ?_
    exact k_iret (v := (-5 : Int32)) (u := u_telling) hx hb hr hlocks hK hS eQ hf hP hD dX10_filled_14
theorem hd_X10_chance : yX10_chance.cls ≠ "java/lang/invoke/MethodHandle" ∧ yX10_chance.cls ≠ "java/lang/invoke/VarHandle" ∧ (parseMethodDescriptor yX10_chance.desc).map (fun d => d.parameters.length) = some 3 := by decide +kernel
set_option maxHeartbeats 4000000 in
set_option maxRecDepth 100000 in
theorem c_X10_chance (l : Launch) (D : va_G) (cI cZ : ClassId) (th0 : Nat) (th1 : Nat) (th2 : Nat) (th3 : Nat) (th4 : Nat) (th5 : Nat) (th6 : Nat) (th7 : Nat) (th8 : Nat) (th9 : Nat) (wheel1 : Nat) (wheel2 : Nat) (wheel3 : Nat) (wheel4 : Nat) (trial1 : Nat) (trial2 : Nat) (trial3 : Nat) (trial4 : Nat) (sz : Nat) (u_wheel : sW) (u_trial : sW) (p1 : Int32) (p2 : Int32) (p3 : Int32) (z : Int64 × sW) (hf : f_X10_chance u_wheel u_trial p1 p2 p3 = some z) : Met l yX10_chance wsX10_chance rmX10_chance (va_Pc [.ref th0, .int p1, .int p2, .int p3] (wPr D cI cZ (ceX th0 th1 th2 th3 th4 th5 th6 th7 th8 th9 ++ (ceW cI cZ th1 wheel1 wheel2 wheel3 wheel4 u_wheel ++ (ceW cI cZ th2 trial1 trial2 trial3 trial4 u_trial))) sz)) (va_Ql (fun (r : Int64) (v : sW) => (r, v) = z) (fun (v : sW) t => wPo D cI cZ (va_A (ceX th0 th1 th2 th3 th4 th5 th6 th7 th8 th9 ++ (ceW cI cZ th1 wheel1 wheel2 wheel3 wheel4 u_wheel ++ (ceW cI cZ th2 trial1 trial2 trial3 trial4 u_trial))) sz) (ceX th0 th1 th2 th3 th4 th5 th6 th7 th8 th9 ++ (ceW cI cZ th1 wheel1 wheel2 wheel3 wheel4 u_wheel ++ (ceW cI cZ th2 trial1 trial2 trial3 trial4 v))) t) (va_A (ceX th0 th1 th2 th3 th4 th5 th6 th7 th8 th9 ++ (ceW cI cZ th1 wheel1 wheel2 wheel3 wheel4 u_wheel ++ (ceW cI cZ th2 trial1 trial2 trial3 trial4 u_trial))) sz)) 0 0 (va_A (ceX th0 th1 th2 th3 th4 th5 th6 th7 th8 th9 ++ (ceW cI cZ th1 wheel1 wheel2 wheel3 wheel4 u_wheel ++ (ceW cI cZ th2 trial1 trial2 trial3 trial4 u_trial))) sz) := by
  refine k_enter (D := D) (cI := cI) (cZ := cZ) (wl := ceX th0 th1 th2 th3 th4 th5 th6 th7 th8 th9 ++ (ceW cI cZ th1 wheel1 wheel2 wheel3 wheel4 u_wheel ++ (ceW cI cZ th2 trial1 trial2 trial3 trial4 u_trial))) (sz := sz) (av := [.ref th0, .int p1, .int p2, .int p3]) (cc := cX10_chance) (maxL := 10) (ret := (some .long)) (Qc := fun A => va_Ql (fun (r : Int64) (v : sW) => (r, v) = z) (fun (v : sW) t => wPo D cI cZ (A) (ceX th0 th1 th2 th3 th4 th5 th6 th7 th8 th9 ++ (ceW cI cZ th1 wheel1 wheel2 wheel3 wheel4 u_wheel ++ (ceW cI cZ th2 trial1 trial2 trial3 trial4 v))) t) (A)) (by decide) rfl (Nat.le_of_ble_eq_true rfl) ?_
  intro p e s m below meth c ls A Q H locs eQ hx hb hr hml hts hown hlocks hK hP hD hS hA hE hl
  have hown : s.vm.findClass RX10 = some m.cls := hown
  have hl : lv_has ls 10 [(0, .ref th0), (1, .int p1), (2, .int p2), (3, .int p3)] := hl
  have hi_X10 : ∀ w ∈ wsX100, w ∈ wsX10_chance := fun w h => List.mem_cons_of_mem _ (List.mem_append_left _ (List.mem_append_right _ h))
  rw [f_X10_chance] at hf
  refine lv_iload_n hx hb dX10_chance_0 rfl (lv_at hl 1 rfl) ?_
  obtain ⟨z1, hz_z1, hf⟩ := o_bind hf
  refine k_calli (va_runS (As := [.int p1]) (rest := []) ⟨hx, hb, hml, hown, hts⟩ (c_X10_isPerson l D cI cZ  H.size p1 z1 hz_z1) (va_cwS 1 hts gX10_chance_X10_isPerson rfl rfl rfl hd_X10_isPerson ⟨Nat.le_of_ble_eq_true rfl, Nat.le_of_ble_eq_true rfl⟩) (k_preS hK hP hD hS hA hE [] (by decide) rfl) rfl rfl hl.1 rfl (lv_room (Nat.le_of_ble_eq_true rfl)) dX10_chance_1 ⟨Nat.zero_le _, Nat.zero_le _⟩) hP hD hS hA [] [none, none, none, none, none, none, none, none, none, none, none] 0 rfl (by decide) (by decide) rfl rfl (fun H locs hP hD hS => ?_)
  have hP : va_P D vwCl (ceX th0 th1 th2 th3 th4 th5 th6 th7 th8 th9 ++ (ceW cI cZ th1 wheel1 wheel2 wheel3 wheel4 u_wheel ++ (ceW cI cZ th2 trial1 trial2 trial3 trial4 u_trial))) H := hP
  have hD : va_D A (ceX th0 th1 th2 th3 th4 th5 th6 th7 th8 th9 ++ (ceW cI cZ th1 wheel1 wheel2 wheel3 wheel4 u_wheel ++ (ceW cI cZ th2 trial1 trial2 trial3 trial4 u_trial))) := hD
  refine lv_if_ne (tgt := 11) hx hb dX10_chance_4 (by decide) (fun c2 => ?_) (fun c2 => ?_)
  · have hf := (if_neg c2).symm.trans hf
    refine lv_iload_n hx hb dX10_chance_11 rfl (lv_at hl 2 rfl) ?_
    refine lv_if_lt (tgt := 29) hx hb dX10_chance_12 (by decide) (fun c3 => ?_) (fun c3 => ?_)
    · have hf := (if_pos c3).symm.trans hf
      refine lv_ldc2 hx hb hown (hts (.constantLong RX10 212 (-1000000000000000002)) (List.mem_of_getElem? (i := 2) rfl)) dX10_chance_29 ?_
      exact k_lret (v := (-1000000000000000002 : Int64)) (u := u_trial) hx hb hr hlocks hK hS eQ hf hP hD dX10_chance_32
    · have hf := (if_neg c3).symm.trans hf
      refine lv_iload_n hx hb dX10_chance_15 rfl (lv_at hl 2 rfl) ?_
      refine lv_iconst (v := 3) hx hb dX10_chance_16 (by decide) ?_
      refine lv_icmp_gt (tgt := 29) hx hb dX10_chance_17 (by decide) (fun c4 => ?_) (fun c4 => ?_)
      · have hf := (if_pos c4).symm.trans hf
        refine lv_ldc2 hx hb hown (hts (.constantLong RX10 212 (-1000000000000000002)) (List.mem_of_getElem? (i := 2) rfl)) dX10_chance_29 ?_
        exact k_lret (v := (-1000000000000000002 : Int64)) (u := u_trial) hx hb hr hlocks hK hS eQ hf hP hD dX10_chance_32
      · have hf := (if_neg c4).symm.trans hf
        refine lv_iload_n hx hb dX10_chance_20 rfl (lv_at hl 3 rfl) ?_
        refine lv_if_lt (tgt := 29) hx hb dX10_chance_21 (by decide) (fun c5 => ?_) (fun c5 => ?_)
        · have hf := (if_pos c5).symm.trans hf
          refine lv_ldc2 hx hb hown (hts (.constantLong RX10 212 (-1000000000000000002)) (List.mem_of_getElem? (i := 2) rfl)) dX10_chance_29 ?_
          exact k_lret (v := (-1000000000000000002 : Int64)) (u := u_trial) hx hb hr hlocks hK hS eQ hf hP hD dX10_chance_32
        · have hf := (if_neg c5).symm.trans hf
          refine lv_iload_n hx hb dX10_chance_24 rfl (lv_at hl 3 rfl) ?_
          refine lv_iconst (v := 1) hx hb dX10_chance_25 (by decide) ?_
          refine lv_icmp_le (tgt := 33) hx hb dX10_chance_26 (by decide) (fun c6 => ?_) (fun c6 => ?_)
          · have hf := (if_pos c6).symm.trans hf
            refine lv_aload_n hx hb dX10_chance_33 rfl (lv_at hl 0 rfl) ?_
            refine va_get (D := D) (ci := 7) (v := .ref th2) (C := RX10) (T := TX10) (N := 9) hx hb hts hi_X10 hown hK hP 0 rfl rfl 1 (by decide) (hts (.fieldLink RX10 16 "FairWheel" "trial" "LFairWheel$Wheel;") (List.mem_of_getElem? (i := 3) rfl)) (fun _ h9 => h9) rfl dX10_chance_34 ?_
            refine lv_aload_n hx hb dX10_chance_37 rfl (lv_at hl 0 rfl) ?_
            refine va_get (D := D) (ci := 7) (v := .ref th1) (C := RX10) (T := TX10) (N := 9) hx hb hts hi_X10 hown hK hP 0 rfl rfl 0 (by decide) (hts (.fieldLink RX10 10 "FairWheel" "wheel" "LFairWheel$Wheel;") (List.mem_of_getElem? (i := 4) rfl)) (fun _ h9 => h9) rfl dX10_chance_38 ?_
            obtain ⟨z7, hz_z7, hf⟩ := o_bind hf
            refine k_callv (va_runV (As := [.ref th1]) (rest := []) ⟨hx, hb, hml, hown, hts⟩ (c_X9_copyFrom l D cI cZ th2 trial1 trial2 trial3 trial4 th1 wheel1 wheel2 wheel3 wheel4 H.size u_trial u_wheel z7 hz_z7) (cwV 1 hts gX10_chance_X9_copyFrom rfl rfl rfl ⟨rfl, hd_X9_copyFrom⟩ ⟨Nat.le_of_ble_eq_true rfl, Nat.le_of_ble_eq_true rfl⟩) (k_preV hK hP hD hS hA hE [6, 7, 8, 9, 10, 1, 2, 3, 4, 5] (by decide) rfl (ci := 6) rfl rfl) rfl rfl hl.1 rfl (lv_room (Nat.le_of_ble_eq_true rfl)) dX10_chance_41 ⟨Nat.zero_le _, Nat.zero_le _⟩) hP hD hS hA [6, 7, 8, 9, 10, 1, 2, 3, 4, 5] [none, some 5, some 6, some 7, some 8, some 9, some 0, some 1, some 2, some 3, some 4] 10 rfl (by decide) (by decide) rfl rfl (fun H locs hP hD hS => ?_)
            have hP : va_P D vwCl (ceX th0 th1 th2 th3 th4 th5 th6 th7 th8 th9 ++ (ceW cI cZ th1 wheel1 wheel2 wheel3 wheel4 u_wheel ++ (ceW cI cZ th2 trial1 trial2 trial3 trial4 z7))) H := hP
            have hD : va_D A (ceX th0 th1 th2 th3 th4 th5 th6 th7 th8 th9 ++ (ceW cI cZ th1 wheel1 wheel2 wheel3 wheel4 u_wheel ++ (ceW cI cZ th2 trial1 trial2 trial3 trial4 z7))) := hD
            refine lv_aload_n hx hb dX10_chance_44 rfl (lv_at hl 0 rfl) ?_
            refine va_get (D := D) (ci := 7) (v := .ref th2) (C := RX10) (T := TX10) (N := 9) hx hb hts hi_X10 hown hK hP 0 rfl rfl 1 (by decide) (hts (.fieldLink RX10 16 "FairWheel" "trial" "LFairWheel$Wheel;") (List.mem_of_getElem? (i := 3) rfl)) (fun _ h9 => h9) rfl dX10_chance_45 ?_
            refine lv_iload_n hx hb dX10_chance_48 rfl (lv_at hl 1 rfl) ?_
            refine lv_iload_n hx hb dX10_chance_49 rfl (lv_at hl 2 rfl) ?_
            obtain ⟨z8, hz_z8, hf⟩ := o_bind hf
            refine k_calll (va_runS (As := [.ref th2, .int p1, .int p2]) (rest := []) ⟨hx, hb, hml, hown, hts⟩ (c_X0_shares l D cI cZ th2 trial1 trial2 trial3 trial4 H.size z7 p1 p2 z8 hz_z8) (va_cwS 3 hts gX10_chance_X0_shares rfl rfl rfl hd_X0_shares ⟨Nat.le_of_ble_eq_true rfl, Nat.le_of_ble_eq_true rfl⟩) (k_preS hK hP hD hS hA hE [6, 7, 8, 9, 10] (by decide) rfl) rfl rfl hl.1 rfl (lv_room (Nat.le_of_ble_eq_true rfl)) dX10_chance_50 ⟨Nat.zero_le _, Nat.zero_le _⟩) hP hD hS hA [6, 7, 8, 9, 10] [none, none, none, none, none, none, some 0, some 1, some 2, some 3, some 4] 5 rfl (by decide) (by decide) rfl rfl (fun H locs hP hD hS => ?_)
            have hP : va_P D vwCl (ceX th0 th1 th2 th3 th4 th5 th6 th7 th8 th9 ++ (ceW cI cZ th1 wheel1 wheel2 wheel3 wheel4 u_wheel ++ (ceW cI cZ th2 trial1 trial2 trial3 trial4 z8.2))) H := hP
            have hD : va_D A (ceX th0 th1 th2 th3 th4 th5 th6 th7 th8 th9 ++ (ceW cI cZ th1 wheel1 wheel2 wheel3 wheel4 u_wheel ++ (ceW cI cZ th2 trial1 trial2 trial3 trial4 z8.2))) := hD
            refine lv_lstore (lv' := [(4, .long z8.1), (0, .ref th0), (1, .int p1), (2, .int p2), (3, .int p3)]) hx hb dX10_chance_53 hl (by decide) rfl (fun ls hl => ?_)
            refine lv_iload_n hx hb dX10_chance_55 rfl (lv_at hl 3 rfl) ?_
            obtain ⟨z9, hz_z9, hf⟩ := o_bind hf
            refine k_calll (va_runS (As := [.int p2]) (rest := []) ⟨hx, hb, hml, hown, hts⟩ (c_X0_allShares l D cI cZ  H.size p2 z9 hz_z9) (va_cwS 1 hts gX10_chance_X0_allShares rfl rfl rfl hd_X0_allShares ⟨Nat.le_of_ble_eq_true rfl, Nat.le_of_ble_eq_true rfl⟩) (k_preS hK hP hD hS hA hE [] (by decide) rfl) rfl rfl hl.1 rfl (lv_room (Nat.le_of_ble_eq_true rfl)) dX10_chance_56 ⟨Nat.zero_le _, Nat.zero_le _⟩) hP hD hS hA [] [none, none, none, none, none, none, none, none, none, none, none] 0 rfl (by decide) (by decide) rfl rfl (fun H locs hP hD hS => ?_)
            have hP : va_P D vwCl (ceX th0 th1 th2 th3 th4 th5 th6 th7 th8 th9 ++ (ceW cI cZ th1 wheel1 wheel2 wheel3 wheel4 u_wheel ++ (ceW cI cZ th2 trial1 trial2 trial3 trial4 z8.2))) H := hP
            have hD : va_D A (ceX th0 th1 th2 th3 th4 th5 th6 th7 th8 th9 ++ (ceW cI cZ th1 wheel1 wheel2 wheel3 wheel4 u_wheel ++ (ceW cI cZ th2 trial1 trial2 trial3 trial4 z8.2))) := hD
            refine lv_lstore (lv' := [(6, .long z9.1), (4, .long z8.1), (0, .ref th0), (1, .int p1), (2, .int p2), (3, .int p3)]) hx hb dX10_chance_59 hl (by decide) rfl (fun ls hl => ?_)
            refine lv_lload hx hb dX10_chance_61 (lv_at hl 1 rfl) ?_
            refine lv_lload hx hb dX10_chance_63 (lv_at hl 0 rfl) ?_
            obtain ⟨z10, hz_z10, hf⟩ := o_bind hf
            refine k_calll (va_runS (As := [.long z8.1, .long z9.1]) (rest := []) ⟨hx, hb, hml, hown, hts⟩ (c_X10_greatestDivisor l D cI cZ  H.size z8.1 z9.1 z10 hz_z10) (va_cwS 2 hts gX10_chance_X10_greatestDivisor rfl rfl rfl hd_X10_greatestDivisor ⟨Nat.le_of_ble_eq_true rfl, Nat.le_of_ble_eq_true rfl⟩) (k_preS hK hP hD hS hA hE [] (by decide) rfl) rfl rfl hl.1 rfl (lv_room (Nat.le_of_ble_eq_true rfl)) dX10_chance_65 ⟨Nat.zero_le _, Nat.zero_le _⟩) hP hD hS hA [] [none, none, none, none, none, none, none, none, none, none, none] 0 rfl (by decide) (by decide) rfl rfl (fun H locs hP hD hS => ?_)
            have hP : va_P D vwCl (ceX th0 th1 th2 th3 th4 th5 th6 th7 th8 th9 ++ (ceW cI cZ th1 wheel1 wheel2 wheel3 wheel4 u_wheel ++ (ceW cI cZ th2 trial1 trial2 trial3 trial4 z8.2))) H := hP
            have hD : va_D A (ceX th0 th1 th2 th3 th4 th5 th6 th7 th8 th9 ++ (ceW cI cZ th1 wheel1 wheel2 wheel3 wheel4 u_wheel ++ (ceW cI cZ th2 trial1 trial2 trial3 trial4 z8.2))) := hD
            refine lv_lstore (lv' := [(8, .long z10.1), (6, .long z9.1), (4, .long z8.1), (0, .ref th0), (1, .int p1), (2, .int p2), (3, .int p3)]) hx hb dX10_chance_68 hl (by decide) rfl (fun ls hl => ?_)
            refine lv_lload hx hb dX10_chance_70 (lv_at hl 0 rfl) ?_
            refine lv_lconst (v := 0) hx hb dX10_chance_72 (by decide) ?_
            refine W.lcmp hx hb dX10_chance_73 ?_
            refine lv_if_gt (tgt := 80) hx hb dX10_chance_74 (by decide) (fun c11 => ?_) (fun c11 => ?_)
            · have hf := (if_pos c11).symm.trans hf
              refine lv_iload_n hx hb dX10_chance_80 rfl (lv_at hl 6 rfl) ?_
              refine lv_if_ne (tgt := 92) hx hb dX10_chance_81 (by decide) (fun c12 => ?_) (fun c12 => ?_)
              · have hf := (if_neg c12).symm.trans hf
                refine lv_lload hx hb dX10_chance_92 (lv_at hl 1 rfl) ?_
                refine lv_lload hx hb dX10_chance_94 (lv_at hl 0 rfl) ?_
                by_cases c13 : z10.1 = 0
                · have hf := (if_pos c13).symm.trans hf
                  cases hf
                have hf := (if_neg c13).symm.trans hf
                refine lv_ldiv hx hb dX10_chance_96 c13 ?_
                exact k_lret (v := (z9.1 / z10.1)) (u := z8.2) hx hb hr hlocks hK hS eQ hf hP hD dX10_chance_97
              · have hf := (if_pos c12).symm.trans hf
                refine lv_lload hx hb dX10_chance_84 (lv_at hl 2 rfl) ?_
                refine lv_lload hx hb dX10_chance_86 (lv_at hl 0 rfl) ?_
                by_cases c14 : z10.1 = 0
                · have hf := (if_pos c14).symm.trans hf
                  cases hf
                have hf := (if_neg c14).symm.trans hf
                refine lv_ldiv hx hb dX10_chance_88 c14 ?_
                refine lv_goto (tgt := 97) hx hb dX10_chance_89 (by decide) ?_
                exact k_lret (v := (z8.1 / z10.1)) (u := z8.2) hx hb hr hlocks hK hS eQ hf hP hD dX10_chance_97
            · have hf := (if_neg c11).symm.trans hf
              refine lv_iload_n hx hb dX10_chance_77 rfl (lv_at hl 6 rfl) ?_
              refine lv_i2l hx hb dX10_chance_78 rfl ?_
              exact k_lret (v := ((p3).toInt64)) (u := z8.2) hx hb hr hlocks hK hS eQ hf hP hD dX10_chance_79
          · have hf := (if_neg c6).symm.trans hf
            refine lv_ldc2 hx hb hown (hts (.constantLong RX10 212 (-1000000000000000002)) (List.mem_of_getElem? (i := 2) rfl)) dX10_chance_29 ?_
            exact k_lret (v := (-1000000000000000002 : Int64)) (u := u_trial) hx hb hr hlocks hK hS eQ hf hP hD dX10_chance_32
  · have hf := (if_pos c2).symm.trans hf
    refine lv_ldc2 hx hb hown (hts (.constantLong RX10 210 (-1000000000000000001)) (List.mem_of_getElem? (i := 1) rfl)) dX10_chance_7 ?_
    exact k_lret (v := (-1000000000000000001 : Int64)) (u := u_trial) hx hb hr hlocks hK hS eQ hf hP hD dX10_chance_10
theorem hd_X10_year : yX10_year.cls ≠ "java/lang/invoke/MethodHandle" ∧ yX10_year.cls ≠ "java/lang/invoke/VarHandle" ∧ (parseMethodDescriptor yX10_year.desc).map (fun d => d.parameters.length) = some 3 := by decide +kernel
set_option maxHeartbeats 4000000 in
set_option maxRecDepth 100000 in
theorem c_X10_year (l : Launch) (D : va_G) (cI cZ : ClassId) (th0 : Nat) (th1 : Nat) (th2 : Nat) (th3 : Nat) (th4 : Nat) (th5 : Nat) (th6 : Nat) (th7 : Nat) (th8 : Nat) (th9 : Nat) (wheel1 : Nat) (wheel2 : Nat) (wheel3 : Nat) (wheel4 : Nat) (turns1 : Nat) (turns2 : Nat) (turns3 : Nat) (turns4 : Nat) (turns5 : Nat) (turns6 : Nat) (sz : Nat) (u_wheel : sW) (u_turns : sU) (p1 : Int32) (p2 : Int32) (p3 : Int32) (z : Int32 × sU) (hf : f_X10_year u_wheel u_turns p1 p2 p3 = some z) : Met l yX10_year wsX10_year rmX10_year (va_Pc [.ref th0, .int p1, .int p2, .int p3] (wPr D cI cZ (ceX th0 th1 th2 th3 th4 th5 th6 th7 th8 th9 ++ (ceW cI cZ th1 wheel1 wheel2 wheel3 wheel4 u_wheel ++ (ceU cI cZ th7 turns1 turns2 turns3 turns4 turns5 turns6 u_turns))) sz)) (va_Qi (fun (r : Int32) (v : sU) => (r, v) = z) (fun (v : sU) t => wPo D cI cZ (va_A (ceX th0 th1 th2 th3 th4 th5 th6 th7 th8 th9 ++ (ceW cI cZ th1 wheel1 wheel2 wheel3 wheel4 u_wheel ++ (ceU cI cZ th7 turns1 turns2 turns3 turns4 turns5 turns6 u_turns))) sz) (ceX th0 th1 th2 th3 th4 th5 th6 th7 th8 th9 ++ (ceW cI cZ th1 wheel1 wheel2 wheel3 wheel4 u_wheel ++ (ceU cI cZ th7 turns1 turns2 turns3 turns4 turns5 turns6 v))) t) (va_A (ceX th0 th1 th2 th3 th4 th5 th6 th7 th8 th9 ++ (ceW cI cZ th1 wheel1 wheel2 wheel3 wheel4 u_wheel ++ (ceU cI cZ th7 turns1 turns2 turns3 turns4 turns5 turns6 u_turns))) sz)) 0 0 (va_A (ceX th0 th1 th2 th3 th4 th5 th6 th7 th8 th9 ++ (ceW cI cZ th1 wheel1 wheel2 wheel3 wheel4 u_wheel ++ (ceU cI cZ th7 turns1 turns2 turns3 turns4 turns5 turns6 u_turns))) sz) := by
  refine k_enter (D := D) (cI := cI) (cZ := cZ) (wl := ceX th0 th1 th2 th3 th4 th5 th6 th7 th8 th9 ++ (ceW cI cZ th1 wheel1 wheel2 wheel3 wheel4 u_wheel ++ (ceU cI cZ th7 turns1 turns2 turns3 turns4 turns5 turns6 u_turns))) (sz := sz) (av := [.ref th0, .int p1, .int p2, .int p3]) (cc := cX10_year) (maxL := 4) (ret := (some .int)) (Qc := fun A => va_Qi (fun (r : Int32) (v : sU) => (r, v) = z) (fun (v : sU) t => wPo D cI cZ (A) (ceX th0 th1 th2 th3 th4 th5 th6 th7 th8 th9 ++ (ceW cI cZ th1 wheel1 wheel2 wheel3 wheel4 u_wheel ++ (ceU cI cZ th7 turns1 turns2 turns3 turns4 turns5 turns6 v))) t) (A)) (by decide) rfl (Nat.le_of_ble_eq_true rfl) ?_
  intro p e s m below meth c ls A Q H locs eQ hx hb hr hml hts hown hlocks hK hP hD hS hA hE hl
  have hown : s.vm.findClass RX10 = some m.cls := hown
  have hl : lv_has ls 4 [(0, .ref th0), (1, .int p1), (2, .int p2), (3, .int p3)] := hl
  have hi_X10 : ∀ w ∈ wsX100, w ∈ wsX10_year := fun w h => List.mem_cons_of_mem _ (List.mem_append_left _ (List.mem_append_left _ (List.mem_append_right _ h)))
  have hJ14 : ∀ (v1 : Int32) (v2 : Int32) (v3 : Int32) (u_turns : sU) (H : Heap) (locs : List Loc) (ls : Array Slot), lv_has ls 4 [(0, .ref th0), (1, .int v1), (2, .int v2), (3, .int v3)] → va_P D vwCl (ceX th0 th1 th2 th3 th4 th5 th6 th7 th8 th9 ++ (ceW cI cZ th1 wheel1 wheel2 wheel3 wheel4 u_wheel ++ (ceU cI cZ th7 turns1 turns2 turns3 turns4 turns5 turns6 u_turns))) H → va_D A (ceX th0 th1 th2 th3 th4 th5 th6 th7 th8 th9 ++ (ceW cI cZ th1 wheel1 wheel2 wheel3 wheel4 u_wheel ++ (ceU cI cZ th7 turns1 turns2 turns3 turns4 turns5 turns6 u_turns))) → va_S A s.heap H locs → f_X10_year_J14 u_wheel v1 v2 v3 u_turns = some z → W p l e (headSpec wsX10_year rmX10_year).room s m ([.ref th0, .int p1, .int p2, .int p3] : List Value).toArray below meth c H locs 0 0 Q (F0 m 14 ls []) := by
    intro  v1 v2 v3 u_turns H locs ls hl hP hD hS hf
    rw [f_X10_year_J14] at hf
    refine lv_iload_n hx hb dX10_year_14 rfl (lv_at hl 1 rfl) ?_
    refine lv_if_lt (tgt := 36) hx hb dX10_year_15 (by decide) (fun c2 => ?_) (fun c2 => ?_)
    · have hf := (if_pos c2).symm.trans hf
      refine lv_bipush (v := -2) hx hb dX10_year_36 (by decide) ?_
      exact k_iret (v := (-2 : Int32)) (u := u_turns) hx hb hr hlocks hK hS eQ hf hP hD dX10_year_38
    · have hf := (if_neg c2).symm.trans hf
      refine lv_iload_n hx hb dX10_year_18 rfl (lv_at hl 1 rfl) ?_
      refine lv_sipush (v := 9999) hx hb dX10_year_19 (by decide) ?_
      refine lv_icmp_gt (tgt := 36) hx hb dX10_year_22 (by decide) (fun c3 => ?_) (fun c3 => ?_)
      · have hf := (if_pos c3).symm.trans hf
        refine lv_bipush (v := -2) hx hb dX10_year_36 (by decide) ?_
        exact k_iret (v := (-2 : Int32)) (u := u_turns) hx hb hr hlocks hK hS eQ hf hP hD dX10_year_38
      · have hf := (if_neg c3).symm.trans hf
        refine lv_iload_n hx hb dX10_year_25 rfl (lv_at hl 2 rfl) ?_
        refine lv_iconst (v := 1) hx hb dX10_year_26 (by decide) ?_
        refine lv_icmp_lt (tgt := 36) hx hb dX10_year_27 (by decide) (fun c4 => ?_) (fun c4 => ?_)
        · have hf := (if_pos c4).symm.trans hf
          refine lv_bipush (v := -2) hx hb dX10_year_36 (by decide) ?_
          exact k_iret (v := (-2 : Int32)) (u := u_turns) hx hb hr hlocks hK hS eQ hf hP hD dX10_year_38
        · have hf := (if_neg c4).symm.trans hf
          refine lv_iload_n hx hb dX10_year_30 rfl (lv_at hl 2 rfl) ?_
          refine lv_bipush (v := 99) hx hb dX10_year_31 (by decide) ?_
          refine lv_icmp_le (tgt := 39) hx hb dX10_year_33 (by decide) (fun c5 => ?_) (fun c5 => ?_)
          · have hf := (if_pos c5).symm.trans hf
            refine lv_aload_n hx hb dX10_year_39 rfl (lv_at hl 0 rfl) ?_
            refine va_get (D := D) (ci := 7) (v := .ref th7) (C := RX10) (T := TX10) (N := 9) hx hb hts hi_X10 hown hK hP 0 rfl rfl 6 (by decide) (hts (.fieldLink RX10 50 "FairWheel" "turns" "LFairWheel$Turns;") (List.mem_of_getElem? (i := 1) rfl)) (fun _ h9 => h9) rfl dX10_year_40 ?_
            refine lv_aload_n hx hb dX10_year_43 rfl (lv_at hl 0 rfl) ?_
            refine va_get (D := D) (ci := 7) (v := .ref th1) (C := RX10) (T := TX10) (N := 9) hx hb hts hi_X10 hown hK hP 0 rfl rfl 0 (by decide) (hts (.fieldLink RX10 10 "FairWheel" "wheel" "LFairWheel$Wheel;") (List.mem_of_getElem? (i := 2) rfl)) (fun _ h9 => h9) rfl dX10_year_44 ?_
            refine lv_iload_n hx hb dX10_year_47 rfl (lv_at hl 1 rfl) ?_
            refine lv_iload_n hx hb dX10_year_48 rfl (lv_at hl 2 rfl) ?_
            obtain ⟨z6, hz_z6, hf⟩ := o_bind hf
            refine k_callv (va_runV (As := [.ref th1, .int v1, .int v2]) (rest := []) ⟨hx, hb, hml, hown, hts⟩ (c_X8_take l D cI cZ th7 turns1 turns2 turns3 turns4 turns5 turns6 th1 wheel1 wheel2 wheel3 wheel4 H.size u_turns u_wheel v1 v2 z6 hz_z6) (cwV 3 hts gX10_year_X8_take rfl rfl rfl ⟨rfl, hd_X8_take⟩ ⟨Nat.le_of_ble_eq_true rfl, Nat.le_of_ble_eq_true rfl⟩) (k_preV hK hP hD hS hA hE [6, 7, 8, 9, 10, 11, 12, 1, 2, 3, 4, 5] (by decide) rfl (ci := 5) rfl rfl) rfl rfl hl.1 rfl (lv_room (Nat.le_of_ble_eq_true rfl)) dX10_year_49 ⟨Nat.zero_le _, Nat.zero_le _⟩) hP hD hS hA [6, 7, 8, 9, 10, 11, 12, 1, 2, 3, 4, 5] [none, some 7, some 8, some 9, some 10, some 11, some 0, some 1, some 2, some 3, some 4, some 5, some 6] 12 rfl (by decide) (by decide) rfl rfl (fun H locs hP hD hS => ?_)
            have hP : va_P D vwCl (ceX th0 th1 th2 th3 th4 th5 th6 th7 th8 th9 ++ (ceW cI cZ th1 wheel1 wheel2 wheel3 wheel4 u_wheel ++ (ceU cI cZ th7 turns1 turns2 turns3 turns4 turns5 turns6 z6))) H := hP
            have hD : va_D A (ceX th0 th1 th2 th3 th4 th5 th6 th7 th8 th9 ++ (ceW cI cZ th1 wheel1 wheel2 wheel3 wheel4 u_wheel ++ (ceU cI cZ th7 turns1 turns2 turns3 turns4 turns5 turns6 z6))) := hD
            refine lv_iload_n hx hb dX10_year_52 rfl (lv_at hl 3 rfl) ?_
            refine lv_iconst (v := -1) hx hb dX10_year_53 (by decide) ?_
            refine lv_icmp_ne (tgt := 67) hx hb dX10_year_54 (by decide) (fun c7 => ?_) (fun c7 => ?_)
            · have hf := (if_neg c7).symm.trans hf
              refine lv_aload_n hx hb dX10_year_67 rfl (lv_at hl 0 rfl) ?_
              refine va_get (D := D) (ci := 7) (v := .ref th7) (C := RX10) (T := TX10) (N := 9) hx hb hts hi_X10 hown hK hP 0 rfl rfl 6 (by decide) (hts (.fieldLink RX10 50 "FairWheel" "turns" "LFairWheel$Turns;") (List.mem_of_getElem? (i := 1) rfl)) (fun _ h9 => h9) rfl dX10_year_68 ?_
              refine lv_iload_n hx hb dX10_year_71 rfl (lv_at hl 3 rfl) ?_
              obtain ⟨z8, hz_z8, hf⟩ := o_bind hf
              refine k_calli (va_runV (As := [.int v3]) (rest := []) ⟨hx, hb, hml, hown, hts⟩ (c_X8_timesLowest l D cI cZ th7 turns1 turns2 turns3 turns4 turns5 turns6 H.size z6 v3 z8 hz_z8) (cwV 1 hts gX10_year_X8_timesLowest rfl rfl rfl ⟨rfl, hd_X8_timesLowest⟩ ⟨Nat.le_of_ble_eq_true rfl, Nat.le_of_ble_eq_true rfl⟩) (k_preV hK hP hD hS hA hE [6, 7, 8, 9, 10, 11, 12] (by decide) rfl (ci := 5) rfl rfl) rfl rfl hl.1 rfl (lv_room (Nat.le_of_ble_eq_true rfl)) dX10_year_72 ⟨Nat.zero_le _, Nat.zero_le _⟩) hP hD hS hA [6, 7, 8, 9, 10, 11, 12] [none, none, none, none, none, none, some 0, some 1, some 2, some 3, some 4, some 5, some 6] 7 rfl (by decide) (by decide) rfl rfl (fun H locs hP hD hS => ?_)
              have hP : va_P D vwCl (ceX th0 th1 th2 th3 th4 th5 th6 th7 th8 th9 ++ (ceW cI cZ th1 wheel1 wheel2 wheel3 wheel4 u_wheel ++ (ceU cI cZ th7 turns1 turns2 turns3 turns4 turns5 turns6 z6))) H := hP
              have hD : va_D A (ceX th0 th1 th2 th3 th4 th5 th6 th7 th8 th9 ++ (ceW cI cZ th1 wheel1 wheel2 wheel3 wheel4 u_wheel ++ (ceU cI cZ th7 turns1 turns2 turns3 turns4 turns5 turns6 z6))) := hD
              exact k_iret (v := z8.1) (u := z6) hx hb hr hlocks hK hS eQ hf hP hD dX10_year_75
            · have hf := (if_pos c7).symm.trans hf
              refine lv_aload_n hx hb dX10_year_57 rfl (lv_at hl 0 rfl) ?_
              refine va_get (D := D) (ci := 7) (v := .ref th7) (C := RX10) (T := TX10) (N := 9) hx hb hts hi_X10 hown hK hP 0 rfl rfl 6 (by decide) (hts (.fieldLink RX10 50 "FairWheel" "turns" "LFairWheel$Turns;") (List.mem_of_getElem? (i := 1) rfl)) (fun _ h9 => h9) rfl dX10_year_58 ?_
              obtain ⟨z9, hz_z9, hf⟩ := o_bind hf
              refine k_calli (va_runV (As := []) (rest := []) ⟨hx, hb, hml, hown, hts⟩ (c_X8_turned l D cI cZ th7 turns1 turns2 turns3 turns4 turns5 turns6 H.size z6 z9 hz_z9) (cwV 0 hts gX10_year_X8_turned rfl rfl rfl ⟨rfl, hd_X8_turned⟩ ⟨Nat.le_of_ble_eq_true rfl, Nat.le_of_ble_eq_true rfl⟩) (k_preV hK hP hD hS hA hE [6, 7, 8, 9, 10, 11, 12] (by decide) rfl (ci := 5) rfl rfl) rfl rfl hl.1 rfl (lv_room (Nat.le_of_ble_eq_true rfl)) dX10_year_61 ⟨Nat.zero_le _, Nat.zero_le _⟩) hP hD hS hA [6, 7, 8, 9, 10, 11, 12] [none, none, none, none, none, none, some 0, some 1, some 2, some 3, some 4, some 5, some 6] 7 rfl (by decide) (by decide) rfl rfl (fun H locs hP hD hS => ?_)
              have hP : va_P D vwCl (ceX th0 th1 th2 th3 th4 th5 th6 th7 th8 th9 ++ (ceW cI cZ th1 wheel1 wheel2 wheel3 wheel4 u_wheel ++ (ceU cI cZ th7 turns1 turns2 turns3 turns4 turns5 turns6 z6))) H := hP
              have hD : va_D A (ceX th0 th1 th2 th3 th4 th5 th6 th7 th8 th9 ++ (ceW cI cZ th1 wheel1 wheel2 wheel3 wheel4 u_wheel ++ (ceU cI cZ th7 turns1 turns2 turns3 turns4 turns5 turns6 z6))) := hD
              refine lv_goto (tgt := 75) hx hb dX10_year_64 (by decide) ?_
              exact k_iret (v := z9.1) (u := z6) hx hb hr hlocks hK hS eQ hf hP hD dX10_year_75
          · have hf := (if_neg c5).symm.trans hf
            refine lv_bipush (v := -2) hx hb dX10_year_36 (by decide) ?_
            exact k_iret (v := (-2 : Int32)) (u := u_turns) hx hb hr hlocks hK hS eQ hf hP hD dX10_year_38
  rw [f_X10_year] at hf
  refine lv_iload_n hx hb dX10_year_0 rfl (lv_at hl 3 rfl) ?_
  refine lv_iconst (v := -1) hx hb dX10_year_1 (by decide) ?_
  refine lv_icmp_eq (tgt := 14) hx hb dX10_year_2 (by decide) (fun c1 => ?_) (fun c1 => ?_)
  · have hf := (if_pos c1).symm.trans hf
    exact hJ14 p1 p2 p3 u_turns _ _ ls (lv_sub hl [0, 1, 2, 3] rfl) hP hD hS hf
  · have hf := (if_neg c1).symm.trans hf
    refine lv_iload_n hx hb dX10_year_5 rfl (lv_at hl 3 rfl) ?_
    obtain ⟨z10, hz_z10, hf⟩ := o_bind hf
    refine k_calli (va_runS (As := [.int p3]) (rest := []) ⟨hx, hb, hml, hown, hts⟩ (c_X10_isCar l D cI cZ  H.size p3 z10 hz_z10) (va_cwS 1 hts gX10_year_X10_isCar rfl rfl rfl hd_X10_isCar ⟨Nat.le_of_ble_eq_true rfl, Nat.le_of_ble_eq_true rfl⟩) (k_preS hK hP hD hS hA hE [] (by decide) rfl) rfl rfl hl.1 rfl (lv_room (Nat.le_of_ble_eq_true rfl)) dX10_year_6 ⟨Nat.zero_le _, Nat.zero_le _⟩) hP hD hS hA [] [none, none, none, none, none, none, none, none, none, none, none, none, none] 0 rfl (by decide) (by decide) rfl rfl (fun H locs hP hD hS => ?_)
    have hP : va_P D vwCl (ceX th0 th1 th2 th3 th4 th5 th6 th7 th8 th9 ++ (ceW cI cZ th1 wheel1 wheel2 wheel3 wheel4 u_wheel ++ (ceU cI cZ th7 turns1 turns2 turns3 turns4 turns5 turns6 u_turns))) H := hP
    have hD : va_D A (ceX th0 th1 th2 th3 th4 th5 th6 th7 th8 th9 ++ (ceW cI cZ th1 wheel1 wheel2 wheel3 wheel4 u_wheel ++ (ceU cI cZ th7 turns1 turns2 turns3 turns4 turns5 turns6 u_turns))) := hD
    refine lv_if_ne (tgt := 14) hx hb dX10_year_9 (by decide) (fun c11 => ?_) (fun c11 => ?_)
    · have hf := (if_neg c11).symm.trans hf
      exact hJ14 p1 p2 p3 u_turns _ _ ls (lv_sub hl [0, 1, 2, 3] rfl) hP hD hS hf
    · have hf := (if_pos c11).symm.trans hf
      refine lv_iconst (v := -1) hx hb dX10_year_12 (by decide) ?_
      exact k_iret (v := (-1 : Int32)) (u := u_turns) hx hb hr hlocks hK hS eQ hf hP hD dX10_year_13
theorem hd_X10_image : yX10_image.cls ≠ "java/lang/invoke/MethodHandle" ∧ yX10_image.cls ≠ "java/lang/invoke/VarHandle" ∧ (parseMethodDescriptor yX10_image.desc).map (fun d => d.parameters.length) = some 1 := by decide +kernel
set_option maxHeartbeats 4000000 in
set_option maxRecDepth 100000 in
theorem c_X10_image (l : Launch) (D : va_G) (cI cZ : ClassId) (th0 : Nat) (th1 : Nat) (th2 : Nat) (th3 : Nat) (th4 : Nat) (th5 : Nat) (th6 : Nat) (th7 : Nat) (th8 : Nat) (th9 : Nat) (wheel1 : Nat) (wheel2 : Nat) (wheel3 : Nat) (wheel4 : Nat) (sights1 : Nat) (sights2 : Nat) (firstImage1 : Nat) (firstImage2 : Nat) (firstImage3 : Nat) (firstImage4 : Nat) (firstImage5 : Nat) (firstImage6 : Nat) (firstImage7 : Nat) (firstImage8 : Nat) (secondImage1 : Nat) (secondImage2 : Nat) (secondImage3 : Nat) (secondImage4 : Nat) (secondImage5 : Nat) (secondImage6 : Nat) (secondImage7 : Nat) (secondImage8 : Nat) (sz : Nat) (u_wheel : sW) (u_sights : sS) (u_firstImage : sI) (u_secondImage : sI) (p1 : Int32) (z : Int32 × sI × sI) (hf : f_X10_image u_wheel u_sights u_firstImage u_secondImage p1 = some z) : Met l yX10_image wsX10_image rmX10_image (va_Pc [.ref th0, .int p1] (wPr D cI cZ (ceX th0 th1 th2 th3 th4 th5 th6 th7 th8 th9 ++ (ceW cI cZ th1 wheel1 wheel2 wheel3 wheel4 u_wheel ++ (ceS cI cZ th4 sights1 sights2 u_sights ++ (ceI cI cZ th8 firstImage1 firstImage2 firstImage3 firstImage4 firstImage5 firstImage6 firstImage7 firstImage8 u_firstImage ++ (ceI cI cZ th9 secondImage1 secondImage2 secondImage3 secondImage4 secondImage5 secondImage6 secondImage7 secondImage8 u_secondImage))))) sz)) (va_Qi (fun (r : Int32) (v : sI × sI) => (r, v) = z) (fun (v : sI × sI) t => wPo D cI cZ (va_A (ceX th0 th1 th2 th3 th4 th5 th6 th7 th8 th9 ++ (ceW cI cZ th1 wheel1 wheel2 wheel3 wheel4 u_wheel ++ (ceS cI cZ th4 sights1 sights2 u_sights ++ (ceI cI cZ th8 firstImage1 firstImage2 firstImage3 firstImage4 firstImage5 firstImage6 firstImage7 firstImage8 u_firstImage ++ (ceI cI cZ th9 secondImage1 secondImage2 secondImage3 secondImage4 secondImage5 secondImage6 secondImage7 secondImage8 u_secondImage))))) sz) (ceX th0 th1 th2 th3 th4 th5 th6 th7 th8 th9 ++ (ceW cI cZ th1 wheel1 wheel2 wheel3 wheel4 u_wheel ++ (ceS cI cZ th4 sights1 sights2 u_sights ++ (ceI cI cZ th8 firstImage1 firstImage2 firstImage3 firstImage4 firstImage5 firstImage6 firstImage7 firstImage8 v.1 ++ (ceI cI cZ th9 secondImage1 secondImage2 secondImage3 secondImage4 secondImage5 secondImage6 secondImage7 secondImage8 v.2))))) t) (va_A (ceX th0 th1 th2 th3 th4 th5 th6 th7 th8 th9 ++ (ceW cI cZ th1 wheel1 wheel2 wheel3 wheel4 u_wheel ++ (ceS cI cZ th4 sights1 sights2 u_sights ++ (ceI cI cZ th8 firstImage1 firstImage2 firstImage3 firstImage4 firstImage5 firstImage6 firstImage7 firstImage8 u_firstImage ++ (ceI cI cZ th9 secondImage1 secondImage2 secondImage3 secondImage4 secondImage5 secondImage6 secondImage7 secondImage8 u_secondImage))))) sz)) 0 0 (va_A (ceX th0 th1 th2 th3 th4 th5 th6 th7 th8 th9 ++ (ceW cI cZ th1 wheel1 wheel2 wheel3 wheel4 u_wheel ++ (ceS cI cZ th4 sights1 sights2 u_sights ++ (ceI cI cZ th8 firstImage1 firstImage2 firstImage3 firstImage4 firstImage5 firstImage6 firstImage7 firstImage8 u_firstImage ++ (ceI cI cZ th9 secondImage1 secondImage2 secondImage3 secondImage4 secondImage5 secondImage6 secondImage7 secondImage8 u_secondImage))))) sz) := by
  refine k_enter (D := D) (cI := cI) (cZ := cZ) (wl := ceX th0 th1 th2 th3 th4 th5 th6 th7 th8 th9 ++ (ceW cI cZ th1 wheel1 wheel2 wheel3 wheel4 u_wheel ++ (ceS cI cZ th4 sights1 sights2 u_sights ++ (ceI cI cZ th8 firstImage1 firstImage2 firstImage3 firstImage4 firstImage5 firstImage6 firstImage7 firstImage8 u_firstImage ++ (ceI cI cZ th9 secondImage1 secondImage2 secondImage3 secondImage4 secondImage5 secondImage6 secondImage7 secondImage8 u_secondImage))))) (sz := sz) (av := [.ref th0, .int p1]) (cc := cX10_image) (maxL := 2) (ret := (some .int)) (Qc := fun A => va_Qi (fun (r : Int32) (v : sI × sI) => (r, v) = z) (fun (v : sI × sI) t => wPo D cI cZ (A) (ceX th0 th1 th2 th3 th4 th5 th6 th7 th8 th9 ++ (ceW cI cZ th1 wheel1 wheel2 wheel3 wheel4 u_wheel ++ (ceS cI cZ th4 sights1 sights2 u_sights ++ (ceI cI cZ th8 firstImage1 firstImage2 firstImage3 firstImage4 firstImage5 firstImage6 firstImage7 firstImage8 v.1 ++ (ceI cI cZ th9 secondImage1 secondImage2 secondImage3 secondImage4 secondImage5 secondImage6 secondImage7 secondImage8 v.2))))) t) (A)) (by decide) rfl (Nat.le_of_ble_eq_true rfl) ?_
  intro p e s m below meth c ls A Q H locs eQ hx hb hr hml hts hown hlocks hK hP hD hS hA hE hl
  have hown : s.vm.findClass RX10 = some m.cls := hown
  have hl : lv_has ls 2 [(0, .ref th0), (1, .int p1)] := hl
  have hi_X10 : ∀ w ∈ wsX100, w ∈ wsX10_image := fun w h => List.mem_cons_of_mem _ (List.mem_append_left _ (List.mem_append_left _ (List.mem_append_left _ (List.mem_append_right _ h))))
  rw [f_X10_image] at hf
  refine lv_iload_n hx hb dX10_image_0 rfl (lv_at hl 1 rfl) ?_
  refine lv_if_lt (tgt := 9) hx hb dX10_image_1 (by decide) (fun c1 => ?_) (fun c1 => ?_)
  · have hf := (if_pos c1).symm.trans hf
    refine lv_bipush (v := -2) hx hb dX10_image_9 (by decide) ?_
    exact k_iret (v := (-2 : Int32)) (u := (u_firstImage, u_secondImage)) hx hb hr hlocks hK hS eQ hf hP hD dX10_image_11
  · have hf := (if_neg c1).symm.trans hf
    refine lv_iload_n hx hb dX10_image_4 rfl (lv_at hl 1 rfl) ?_
    refine lv_iconst (v := 1) hx hb dX10_image_5 (by decide) ?_
    refine lv_icmp_le (tgt := 12) hx hb dX10_image_6 (by decide) (fun c2 => ?_) (fun c2 => ?_)
    · have hf := (if_pos c2).symm.trans hf
      refine lv_aload_n hx hb dX10_image_12 rfl (lv_at hl 0 rfl) ?_
      refine lv_iload_n hx hb dX10_image_13 rfl (lv_at hl 1 rfl) ?_
      refine k_callr (va_runV (As := [.int p1]) (rest := []) ⟨hx, hb, hml, hown, hts⟩ (c_X10_imageOf l D cI cZ th0 th1 th2 th3 th4 th5 th6 th7 th8 th9 H.size p1) (cwV 1 hts gX10_image_X10_imageOf rfl rfl rfl ⟨rfl, hd_X10_imageOf⟩ ⟨Nat.le_of_ble_eq_true rfl, Nat.le_of_ble_eq_true rfl⟩) (k_preV hK hP hD hS hA hE [0] (by decide) rfl (ci := 7) rfl rfl) rfl rfl hl.1 rfl (lv_room (Nat.le_of_ble_eq_true rfl)) dX10_image_14 ⟨Nat.zero_le _, Nat.zero_le _⟩) hP hD hS hA [0] [some 0, none, none, none, none, none, none, none, none, none, none, none, none, none, none, none, none, none, none, none, none, none, none, none, none, none, none] 1 rfl (by decide) (by decide) rfl rfl (fun H locs hP hD hS => ?_)
      have hP : va_P D vwCl (ceX th0 th1 th2 th3 th4 th5 th6 th7 th8 th9 ++ (ceW cI cZ th1 wheel1 wheel2 wheel3 wheel4 u_wheel ++ (ceS cI cZ th4 sights1 sights2 u_sights ++ (ceI cI cZ th8 firstImage1 firstImage2 firstImage3 firstImage4 firstImage5 firstImage6 firstImage7 firstImage8 u_firstImage ++ (ceI cI cZ th9 secondImage1 secondImage2 secondImage3 secondImage4 secondImage5 secondImage6 secondImage7 secondImage8 u_secondImage))))) H := hP
      have hD : va_D A (ceX th0 th1 th2 th3 th4 th5 th6 th7 th8 th9 ++ (ceW cI cZ th1 wheel1 wheel2 wheel3 wheel4 u_wheel ++ (ceS cI cZ th4 sights1 sights2 u_sights ++ (ceI cI cZ th8 firstImage1 firstImage2 firstImage3 firstImage4 firstImage5 firstImage6 firstImage7 firstImage8 u_firstImage ++ (ceI cI cZ th9 secondImage1 secondImage2 secondImage3 secondImage4 secondImage5 secondImage6 secondImage7 secondImage8 u_secondImage))))) := hD
      by_cases c4 : p1 = 0
      · rw [if_pos c4]
        have hf := (if_pos c4).symm.trans hf
        refine lv_aload_n hx hb dX10_image_17 rfl (lv_at hl 0 rfl) ?_
        refine va_get (D := D) (ci := 7) (v := .ref th1) (C := RX10) (T := TX10) (N := 9) hx hb hts hi_X10 hown hK hP 0 rfl rfl 0 (by decide) (hts (.fieldLink RX10 10 "FairWheel" "wheel" "LFairWheel$Wheel;") (List.mem_of_getElem? (i := 1) rfl)) (fun _ h9 => h9) rfl dX10_image_18 ?_
        refine lv_aload_n hx hb dX10_image_21 rfl (lv_at hl 0 rfl) ?_
        refine va_get (D := D) (ci := 7) (v := .ref th4) (C := RX10) (T := TX10) (N := 9) hx hb hts hi_X10 hown hK hP 0 rfl rfl 3 (by decide) (hts (.fieldLink RX10 29 "FairWheel" "sights" "LFairWheel$Sights;") (List.mem_of_getElem? (i := 2) rfl)) (fun _ h9 => h9) rfl dX10_image_22 ?_
        obtain ⟨z5, hz_z5, hf⟩ := o_bind hf
        refine k_callv (va_runV (As := [.ref th1, .ref th4]) (rest := []) ⟨hx, hb, hml, hown, hts⟩ (c_X2_keep l D cI cZ th8 firstImage1 firstImage2 firstImage3 firstImage4 firstImage5 firstImage6 firstImage7 firstImage8 th1 wheel1 wheel2 wheel3 wheel4 th4 sights1 sights2 H.size u_firstImage u_wheel u_sights z5 hz_z5) (cwV 2 hts gX10_image_X2_keep rfl rfl rfl ⟨rfl, hd_X2_keep⟩ ⟨Nat.le_of_ble_eq_true rfl, Nat.le_of_ble_eq_true rfl⟩) (k_preV hK hP hD hS hA hE [9, 10, 11, 12, 13, 14, 15, 16, 17, 1, 2, 3, 4, 5, 6, 7, 8] (by decide) rfl (ci := 0) rfl rfl) rfl rfl hl.1 rfl (lv_room (Nat.le_of_ble_eq_true rfl)) dX10_image_25 ⟨Nat.zero_le _, Nat.zero_le _⟩) hP hD hS hA [9, 10, 11, 12, 13, 14, 15, 16, 17, 1, 2, 3, 4, 5, 6, 7, 8] [none, some 9, some 10, some 11, some 12, some 13, some 14, some 15, some 16, some 0, some 1, some 2, some 3, some 4, some 5, some 6, some 7, some 8, none, none, none, none, none, none, none, none, none] 17 rfl (by decide) (by decide) rfl rfl (fun H locs hP hD hS => ?_)
        have hP : va_P D vwCl (ceX th0 th1 th2 th3 th4 th5 th6 th7 th8 th9 ++ (ceW cI cZ th1 wheel1 wheel2 wheel3 wheel4 u_wheel ++ (ceS cI cZ th4 sights1 sights2 u_sights ++ (ceI cI cZ th8 firstImage1 firstImage2 firstImage3 firstImage4 firstImage5 firstImage6 firstImage7 firstImage8 z5 ++ (ceI cI cZ th9 secondImage1 secondImage2 secondImage3 secondImage4 secondImage5 secondImage6 secondImage7 secondImage8 u_secondImage))))) H := hP
        have hD : va_D A (ceX th0 th1 th2 th3 th4 th5 th6 th7 th8 th9 ++ (ceW cI cZ th1 wheel1 wheel2 wheel3 wheel4 u_wheel ++ (ceS cI cZ th4 sights1 sights2 u_sights ++ (ceI cI cZ th8 firstImage1 firstImage2 firstImage3 firstImage4 firstImage5 firstImage6 firstImage7 firstImage8 z5 ++ (ceI cI cZ th9 secondImage1 secondImage2 secondImage3 secondImage4 secondImage5 secondImage6 secondImage7 secondImage8 u_secondImage))))) := hD
        refine lv_iconst (v := 1) hx hb dX10_image_28 (by decide) ?_
        exact k_iret (v := (1 : Int32)) (u := (z5, u_secondImage)) hx hb hr hlocks hK hS eQ hf hP hD dX10_image_29
      · rw [if_neg c4]
        have hf := (if_neg c4).symm.trans hf
        refine lv_aload_n hx hb dX10_image_17 rfl (lv_at hl 0 rfl) ?_
        refine va_get (D := D) (ci := 7) (v := .ref th1) (C := RX10) (T := TX10) (N := 9) hx hb hts hi_X10 hown hK hP 0 rfl rfl 0 (by decide) (hts (.fieldLink RX10 10 "FairWheel" "wheel" "LFairWheel$Wheel;") (List.mem_of_getElem? (i := 1) rfl)) (fun _ h9 => h9) rfl dX10_image_18 ?_
        refine lv_aload_n hx hb dX10_image_21 rfl (lv_at hl 0 rfl) ?_
        refine va_get (D := D) (ci := 7) (v := .ref th4) (C := RX10) (T := TX10) (N := 9) hx hb hts hi_X10 hown hK hP 0 rfl rfl 3 (by decide) (hts (.fieldLink RX10 29 "FairWheel" "sights" "LFairWheel$Sights;") (List.mem_of_getElem? (i := 2) rfl)) (fun _ h9 => h9) rfl dX10_image_22 ?_
        obtain ⟨z6, hz_z6, hf⟩ := o_bind hf
        refine k_callv (va_runV (As := [.ref th1, .ref th4]) (rest := []) ⟨hx, hb, hml, hown, hts⟩ (c_X2_keep l D cI cZ th9 secondImage1 secondImage2 secondImage3 secondImage4 secondImage5 secondImage6 secondImage7 secondImage8 th1 wheel1 wheel2 wheel3 wheel4 th4 sights1 sights2 H.size u_secondImage u_wheel u_sights z6 hz_z6) (cwV 2 hts gX10_image_X2_keep rfl rfl rfl ⟨rfl, hd_X2_keep⟩ ⟨Nat.le_of_ble_eq_true rfl, Nat.le_of_ble_eq_true rfl⟩) (k_preV hK hP hD hS hA hE [18, 19, 20, 21, 22, 23, 24, 25, 26, 1, 2, 3, 4, 5, 6, 7, 8] (by decide) rfl (ci := 0) rfl rfl) rfl rfl hl.1 rfl (lv_room (Nat.le_of_ble_eq_true rfl)) dX10_image_25 ⟨Nat.zero_le _, Nat.zero_le _⟩) hP hD hS hA [18, 19, 20, 21, 22, 23, 24, 25, 26, 1, 2, 3, 4, 5, 6, 7, 8] [none, some 9, some 10, some 11, some 12, some 13, some 14, some 15, some 16, none, none, none, none, none, none, none, none, none, some 0, some 1, some 2, some 3, some 4, some 5, some 6, some 7, some 8] 17 rfl (by decide) (by decide) rfl rfl (fun H locs hP hD hS => ?_)
        have hP : va_P D vwCl (ceX th0 th1 th2 th3 th4 th5 th6 th7 th8 th9 ++ (ceW cI cZ th1 wheel1 wheel2 wheel3 wheel4 u_wheel ++ (ceS cI cZ th4 sights1 sights2 u_sights ++ (ceI cI cZ th8 firstImage1 firstImage2 firstImage3 firstImage4 firstImage5 firstImage6 firstImage7 firstImage8 u_firstImage ++ (ceI cI cZ th9 secondImage1 secondImage2 secondImage3 secondImage4 secondImage5 secondImage6 secondImage7 secondImage8 z6))))) H := hP
        have hD : va_D A (ceX th0 th1 th2 th3 th4 th5 th6 th7 th8 th9 ++ (ceW cI cZ th1 wheel1 wheel2 wheel3 wheel4 u_wheel ++ (ceS cI cZ th4 sights1 sights2 u_sights ++ (ceI cI cZ th8 firstImage1 firstImage2 firstImage3 firstImage4 firstImage5 firstImage6 firstImage7 firstImage8 u_firstImage ++ (ceI cI cZ th9 secondImage1 secondImage2 secondImage3 secondImage4 secondImage5 secondImage6 secondImage7 secondImage8 z6))))) := hD
        refine lv_iconst (v := 1) hx hb dX10_image_28 (by decide) ?_
        exact k_iret (v := (1 : Int32)) (u := (u_firstImage, z6)) hx hb hr hlocks hK hS eQ hf hP hD dX10_image_29
    · have hf := (if_neg c2).symm.trans hf
      refine lv_bipush (v := -2) hx hb dX10_image_9 (by decide) ?_
      exact k_iret (v := (-2 : Int32)) (u := (u_firstImage, u_secondImage)) hx hb hr hlocks hK hS eQ hf hP hD dX10_image_11
theorem hd_X10_restore : yX10_restore.cls ≠ "java/lang/invoke/MethodHandle" ∧ yX10_restore.cls ≠ "java/lang/invoke/VarHandle" ∧ (parseMethodDescriptor yX10_restore.desc).map (fun d => d.parameters.length) = some 1 := by decide +kernel
set_option maxHeartbeats 4000000 in
set_option maxRecDepth 100000 in
theorem c_X10_restore (l : Launch) (D : va_G) (cI cZ : ClassId) (th0 : Nat) (th1 : Nat) (th2 : Nat) (th3 : Nat) (th4 : Nat) (th5 : Nat) (th6 : Nat) (th7 : Nat) (th8 : Nat) (th9 : Nat) (wheel1 : Nat) (wheel2 : Nat) (wheel3 : Nat) (wheel4 : Nat) (sights1 : Nat) (sights2 : Nat) (firstImage1 : Nat) (firstImage2 : Nat) (firstImage3 : Nat) (firstImage4 : Nat) (firstImage5 : Nat) (firstImage6 : Nat) (firstImage7 : Nat) (firstImage8 : Nat) (secondImage1 : Nat) (secondImage2 : Nat) (secondImage3 : Nat) (secondImage4 : Nat) (secondImage5 : Nat) (secondImage6 : Nat) (secondImage7 : Nat) (secondImage8 : Nat) (sz : Nat) (u_wheel : sW) (u_sights : sS) (u_firstImage : sI) (u_secondImage : sI) (p1 : Int32) (z : Int32 × sW × sS) (hf : f_X10_restore u_wheel u_sights u_firstImage u_secondImage p1 = some z) : Met l yX10_restore wsX10_restore rmX10_restore (va_Pc [.ref th0, .int p1] (wPr D cI cZ (ceX th0 th1 th2 th3 th4 th5 th6 th7 th8 th9 ++ (ceW cI cZ th1 wheel1 wheel2 wheel3 wheel4 u_wheel ++ (ceS cI cZ th4 sights1 sights2 u_sights ++ (ceI cI cZ th8 firstImage1 firstImage2 firstImage3 firstImage4 firstImage5 firstImage6 firstImage7 firstImage8 u_firstImage ++ (ceI cI cZ th9 secondImage1 secondImage2 secondImage3 secondImage4 secondImage5 secondImage6 secondImage7 secondImage8 u_secondImage))))) sz)) (va_Qi (fun (r : Int32) (v : sW × sS) => (r, v) = z) (fun (v : sW × sS) t => wPo D cI cZ (va_A (ceX th0 th1 th2 th3 th4 th5 th6 th7 th8 th9 ++ (ceW cI cZ th1 wheel1 wheel2 wheel3 wheel4 u_wheel ++ (ceS cI cZ th4 sights1 sights2 u_sights ++ (ceI cI cZ th8 firstImage1 firstImage2 firstImage3 firstImage4 firstImage5 firstImage6 firstImage7 firstImage8 u_firstImage ++ (ceI cI cZ th9 secondImage1 secondImage2 secondImage3 secondImage4 secondImage5 secondImage6 secondImage7 secondImage8 u_secondImage))))) sz) (ceX th0 th1 th2 th3 th4 th5 th6 th7 th8 th9 ++ (ceW cI cZ th1 wheel1 wheel2 wheel3 wheel4 v.1 ++ (ceS cI cZ th4 sights1 sights2 v.2 ++ (ceI cI cZ th8 firstImage1 firstImage2 firstImage3 firstImage4 firstImage5 firstImage6 firstImage7 firstImage8 u_firstImage ++ (ceI cI cZ th9 secondImage1 secondImage2 secondImage3 secondImage4 secondImage5 secondImage6 secondImage7 secondImage8 u_secondImage))))) t) (va_A (ceX th0 th1 th2 th3 th4 th5 th6 th7 th8 th9 ++ (ceW cI cZ th1 wheel1 wheel2 wheel3 wheel4 u_wheel ++ (ceS cI cZ th4 sights1 sights2 u_sights ++ (ceI cI cZ th8 firstImage1 firstImage2 firstImage3 firstImage4 firstImage5 firstImage6 firstImage7 firstImage8 u_firstImage ++ (ceI cI cZ th9 secondImage1 secondImage2 secondImage3 secondImage4 secondImage5 secondImage6 secondImage7 secondImage8 u_secondImage))))) sz)) 0 0 (va_A (ceX th0 th1 th2 th3 th4 th5 th6 th7 th8 th9 ++ (ceW cI cZ th1 wheel1 wheel2 wheel3 wheel4 u_wheel ++ (ceS cI cZ th4 sights1 sights2 u_sights ++ (ceI cI cZ th8 firstImage1 firstImage2 firstImage3 firstImage4 firstImage5 firstImage6 firstImage7 firstImage8 u_firstImage ++ (ceI cI cZ th9 secondImage1 secondImage2 secondImage3 secondImage4 secondImage5 secondImage6 secondImage7 secondImage8 u_secondImage))))) sz) := by
  refine k_enter (D := D) (cI := cI) (cZ := cZ) (wl := ceX th0 th1 th2 th3 th4 th5 th6 th7 th8 th9 ++ (ceW cI cZ th1 wheel1 wheel2 wheel3 wheel4 u_wheel ++ (ceS cI cZ th4 sights1 sights2 u_sights ++ (ceI cI cZ th8 firstImage1 firstImage2 firstImage3 firstImage4 firstImage5 firstImage6 firstImage7 firstImage8 u_firstImage ++ (ceI cI cZ th9 secondImage1 secondImage2 secondImage3 secondImage4 secondImage5 secondImage6 secondImage7 secondImage8 u_secondImage))))) (sz := sz) (av := [.ref th0, .int p1]) (cc := cX10_restore) (maxL := 3) (ret := (some .int)) (Qc := fun A => va_Qi (fun (r : Int32) (v : sW × sS) => (r, v) = z) (fun (v : sW × sS) t => wPo D cI cZ (A) (ceX th0 th1 th2 th3 th4 th5 th6 th7 th8 th9 ++ (ceW cI cZ th1 wheel1 wheel2 wheel3 wheel4 v.1 ++ (ceS cI cZ th4 sights1 sights2 v.2 ++ (ceI cI cZ th8 firstImage1 firstImage2 firstImage3 firstImage4 firstImage5 firstImage6 firstImage7 firstImage8 u_firstImage ++ (ceI cI cZ th9 secondImage1 secondImage2 secondImage3 secondImage4 secondImage5 secondImage6 secondImage7 secondImage8 u_secondImage))))) t) (A)) (by decide) rfl (Nat.le_of_ble_eq_true rfl) ?_
  intro p e s m below meth c ls A Q H locs eQ hx hb hr hml hts hown hlocks hK hP hD hS hA hE hl
  have hown : s.vm.findClass RX10 = some m.cls := hown
  have hl : lv_has ls 3 [(0, .ref th0), (1, .int p1)] := hl
  have hi_X10 : ∀ w ∈ wsX100, w ∈ wsX10_restore := fun w h => List.mem_cons_of_mem _ (List.mem_append_left _ (List.mem_append_left _ (List.mem_append_left _ (List.mem_append_right _ h))))
  rw [f_X10_restore] at hf
  refine lv_iload_n hx hb dX10_restore_0 rfl (lv_at hl 1 rfl) ?_
  refine lv_if_lt (tgt := 9) hx hb dX10_restore_1 (by decide) (fun c1 => ?_) (fun c1 => ?_)
  · have hf := (if_pos c1).symm.trans hf
    refine lv_bipush (v := -2) hx hb dX10_restore_9 (by decide) ?_
    exact k_iret (v := (-2 : Int32)) (u := (u_wheel, u_sights)) hx hb hr hlocks hK hS eQ hf hP hD dX10_restore_11
  · have hf := (if_neg c1).symm.trans hf
    refine lv_iload_n hx hb dX10_restore_4 rfl (lv_at hl 1 rfl) ?_
    refine lv_iconst (v := 1) hx hb dX10_restore_5 (by decide) ?_
    refine lv_icmp_le (tgt := 12) hx hb dX10_restore_6 (by decide) (fun c2 => ?_) (fun c2 => ?_)
    · have hf := (if_pos c2).symm.trans hf
      refine lv_aload_n hx hb dX10_restore_12 rfl (lv_at hl 0 rfl) ?_
      refine lv_iload_n hx hb dX10_restore_13 rfl (lv_at hl 1 rfl) ?_
      refine k_callr (va_runV (As := [.int p1]) (rest := []) ⟨hx, hb, hml, hown, hts⟩ (c_X10_imageOf l D cI cZ th0 th1 th2 th3 th4 th5 th6 th7 th8 th9 H.size p1) (cwV 1 hts gX10_restore_X10_imageOf rfl rfl rfl ⟨rfl, hd_X10_imageOf⟩ ⟨Nat.le_of_ble_eq_true rfl, Nat.le_of_ble_eq_true rfl⟩) (k_preV hK hP hD hS hA hE [0] (by decide) rfl (ci := 7) rfl rfl) rfl rfl hl.1 rfl (lv_room (Nat.le_of_ble_eq_true rfl)) dX10_restore_14 ⟨Nat.zero_le _, Nat.zero_le _⟩) hP hD hS hA [0] [some 0, none, none, none, none, none, none, none, none, none, none, none, none, none, none, none, none, none, none, none, none, none, none, none, none, none, none] 1 rfl (by decide) (by decide) rfl rfl (fun H locs hP hD hS => ?_)
      have hP : va_P D vwCl (ceX th0 th1 th2 th3 th4 th5 th6 th7 th8 th9 ++ (ceW cI cZ th1 wheel1 wheel2 wheel3 wheel4 u_wheel ++ (ceS cI cZ th4 sights1 sights2 u_sights ++ (ceI cI cZ th8 firstImage1 firstImage2 firstImage3 firstImage4 firstImage5 firstImage6 firstImage7 firstImage8 u_firstImage ++ (ceI cI cZ th9 secondImage1 secondImage2 secondImage3 secondImage4 secondImage5 secondImage6 secondImage7 secondImage8 u_secondImage))))) H := hP
      have hD : va_D A (ceX th0 th1 th2 th3 th4 th5 th6 th7 th8 th9 ++ (ceW cI cZ th1 wheel1 wheel2 wheel3 wheel4 u_wheel ++ (ceS cI cZ th4 sights1 sights2 u_sights ++ (ceI cI cZ th8 firstImage1 firstImage2 firstImage3 firstImage4 firstImage5 firstImage6 firstImage7 firstImage8 u_firstImage ++ (ceI cI cZ th9 secondImage1 secondImage2 secondImage3 secondImage4 secondImage5 secondImage6 secondImage7 secondImage8 u_secondImage))))) := hD
      by_cases c4 : p1 = 0
      · rw [if_pos c4]
        have hf := (if_pos c4).symm.trans hf
        refine lv_astore_n (lv' := [(2, .ref th8), (0, .ref th0), (1, .int p1)]) hx hb dX10_restore_17 rfl hl (by decide) rfl (fun ls hl => ?_)
        refine lv_aload_n hx hb dX10_restore_18 rfl (lv_at hl 0 rfl) ?_
        obtain ⟨z5, hz_z5, hf⟩ := o_bind hf
        refine k_calli (va_runV (As := []) (rest := []) ⟨hx, hb, hml, hown, hts⟩ (c_X2_isKept l D cI cZ th8 firstImage1 firstImage2 firstImage3 firstImage4 firstImage5 firstImage6 firstImage7 firstImage8 H.size u_firstImage z5 hz_z5) (cwV 0 hts gX10_restore_X2_isKept rfl rfl rfl ⟨rfl, hd_X2_isKept⟩ ⟨Nat.le_of_ble_eq_true rfl, Nat.le_of_ble_eq_true rfl⟩) (k_preV hK hP hD hS hA hE [9, 10, 11, 12, 13, 14, 15, 16, 17] (by decide) rfl (ci := 0) rfl rfl) rfl rfl hl.1 rfl (lv_room (Nat.le_of_ble_eq_true rfl)) dX10_restore_19 ⟨Nat.zero_le _, Nat.zero_le _⟩) hP hD hS hA [9, 10, 11, 12, 13, 14, 15, 16, 17] [none, none, none, none, none, none, none, none, none, some 0, some 1, some 2, some 3, some 4, some 5, some 6, some 7, some 8, none, none, none, none, none, none, none, none, none] 9 rfl (by decide) (by decide) rfl rfl (fun H locs hP hD hS => ?_)
        have hP : va_P D vwCl (ceX th0 th1 th2 th3 th4 th5 th6 th7 th8 th9 ++ (ceW cI cZ th1 wheel1 wheel2 wheel3 wheel4 u_wheel ++ (ceS cI cZ th4 sights1 sights2 u_sights ++ (ceI cI cZ th8 firstImage1 firstImage2 firstImage3 firstImage4 firstImage5 firstImage6 firstImage7 firstImage8 u_firstImage ++ (ceI cI cZ th9 secondImage1 secondImage2 secondImage3 secondImage4 secondImage5 secondImage6 secondImage7 secondImage8 u_secondImage))))) H := hP
        have hD : va_D A (ceX th0 th1 th2 th3 th4 th5 th6 th7 th8 th9 ++ (ceW cI cZ th1 wheel1 wheel2 wheel3 wheel4 u_wheel ++ (ceS cI cZ th4 sights1 sights2 u_sights ++ (ceI cI cZ th8 firstImage1 firstImage2 firstImage3 firstImage4 firstImage5 firstImage6 firstImage7 firstImage8 u_firstImage ++ (ceI cI cZ th9 secondImage1 secondImage2 secondImage3 secondImage4 secondImage5 secondImage6 secondImage7 secondImage8 u_secondImage))))) := hD
        refine lv_if_ne (tgt := 28) hx hb dX10_restore_22 (by decide) (fun c6 => ?_) (fun c6 => ?_)
        · have hf := (if_neg c6).symm.trans hf
          refine lv_aload_n hx hb dX10_restore_28 rfl (lv_at hl 0 rfl) ?_
          refine lv_aload_n hx hb dX10_restore_29 rfl (lv_at hl 1 rfl) ?_
          refine va_get (D := D) (ci := 7) (v := .ref th1) (C := RX10) (T := TX10) (N := 9) hx hb hts hi_X10 hown hK hP 0 rfl rfl 0 (by decide) (hts (.fieldLink RX10 10 "FairWheel" "wheel" "LFairWheel$Wheel;") (List.mem_of_getElem? (i := 1) rfl)) (fun _ h9 => h9) rfl dX10_restore_30 ?_
          refine lv_aload_n hx hb dX10_restore_33 rfl (lv_at hl 1 rfl) ?_
          refine va_get (D := D) (ci := 7) (v := .ref th4) (C := RX10) (T := TX10) (N := 9) hx hb hts hi_X10 hown hK hP 0 rfl rfl 3 (by decide) (hts (.fieldLink RX10 29 "FairWheel" "sights" "LFairWheel$Sights;") (List.mem_of_getElem? (i := 2) rfl)) (fun _ h9 => h9) rfl dX10_restore_34 ?_
          obtain ⟨z7, hz_z7, hf⟩ := o_bind hf
          refine k_callv (va_runV (As := [.ref th1, .ref th4]) (rest := []) ⟨hx, hb, hml, hown, hts⟩ (c_X2_giveBack l D cI cZ th8 firstImage1 firstImage2 firstImage3 firstImage4 firstImage5 firstImage6 firstImage7 firstImage8 th1 wheel1 wheel2 wheel3 wheel4 th4 sights1 sights2 H.size u_firstImage u_wheel u_sights z7 hz_z7) (cwV 2 hts gX10_restore_X2_giveBack rfl rfl rfl ⟨rfl, hd_X2_giveBack⟩ ⟨Nat.le_of_ble_eq_true rfl, Nat.le_of_ble_eq_true rfl⟩) (k_preV hK hP hD hS hA hE [9, 10, 11, 12, 13, 14, 15, 16, 17, 1, 2, 3, 4, 5, 6, 7, 8] (by decide) rfl (ci := 0) rfl rfl) rfl rfl hl.1 rfl (lv_room (Nat.le_of_ble_eq_true rfl)) dX10_restore_37 ⟨Nat.zero_le _, Nat.zero_le _⟩) hP hD hS hA [9, 10, 11, 12, 13, 14, 15, 16, 17, 1, 2, 3, 4, 5, 6, 7, 8] [none, some 9, some 10, some 11, some 12, some 13, some 14, some 15, some 16, some 0, some 1, some 2, some 3, some 4, some 5, some 6, some 7, some 8, none, none, none, none, none, none, none, none, none] 17 rfl (by decide) (by decide) rfl rfl (fun H locs hP hD hS => ?_)
          have hP : va_P D vwCl (ceX th0 th1 th2 th3 th4 th5 th6 th7 th8 th9 ++ (ceW cI cZ th1 wheel1 wheel2 wheel3 wheel4 z7.1 ++ (ceS cI cZ th4 sights1 sights2 z7.2 ++ (ceI cI cZ th8 firstImage1 firstImage2 firstImage3 firstImage4 firstImage5 firstImage6 firstImage7 firstImage8 u_firstImage ++ (ceI cI cZ th9 secondImage1 secondImage2 secondImage3 secondImage4 secondImage5 secondImage6 secondImage7 secondImage8 u_secondImage))))) H := hP
          have hD : va_D A (ceX th0 th1 th2 th3 th4 th5 th6 th7 th8 th9 ++ (ceW cI cZ th1 wheel1 wheel2 wheel3 wheel4 z7.1 ++ (ceS cI cZ th4 sights1 sights2 z7.2 ++ (ceI cI cZ th8 firstImage1 firstImage2 firstImage3 firstImage4 firstImage5 firstImage6 firstImage7 firstImage8 u_firstImage ++ (ceI cI cZ th9 secondImage1 secondImage2 secondImage3 secondImage4 secondImage5 secondImage6 secondImage7 secondImage8 u_secondImage))))) := hD
          refine lv_iconst (v := 1) hx hb dX10_restore_40 (by decide) ?_
          exact k_iret (v := (1 : Int32)) (u := (z7.1, z7.2)) hx hb hr hlocks hK hS eQ hf hP hD dX10_restore_41
        · have hf := (if_pos c6).symm.trans hf
          refine lv_bipush (v := -3) hx hb dX10_restore_25 (by decide) ?_
          exact k_iret (v := (-3 : Int32)) (u := (u_wheel, u_sights)) hx hb hr hlocks hK hS eQ hf hP hD dX10_restore_27
      · rw [if_neg c4]
        have hf := (if_neg c4).symm.trans hf
        refine lv_astore_n (lv' := [(2, .ref th9), (0, .ref th0), (1, .int p1)]) hx hb dX10_restore_17 rfl hl (by decide) rfl (fun ls hl => ?_)
        refine lv_aload_n hx hb dX10_restore_18 rfl (lv_at hl 0 rfl) ?_
        obtain ⟨z8, hz_z8, hf⟩ := o_bind hf
        refine k_calli (va_runV (As := []) (rest := []) ⟨hx, hb, hml, hown, hts⟩ (c_X2_isKept l D cI cZ th9 secondImage1 secondImage2 secondImage3 secondImage4 secondImage5 secondImage6 secondImage7 secondImage8 H.size u_secondImage z8 hz_z8) (cwV 0 hts gX10_restore_X2_isKept rfl rfl rfl ⟨rfl, hd_X2_isKept⟩ ⟨Nat.le_of_ble_eq_true rfl, Nat.le_of_ble_eq_true rfl⟩) (k_preV hK hP hD hS hA hE [18, 19, 20, 21, 22, 23, 24, 25, 26] (by decide) rfl (ci := 0) rfl rfl) rfl rfl hl.1 rfl (lv_room (Nat.le_of_ble_eq_true rfl)) dX10_restore_19 ⟨Nat.zero_le _, Nat.zero_le _⟩) hP hD hS hA [18, 19, 20, 21, 22, 23, 24, 25, 26] [none, none, none, none, none, none, none, none, none, none, none, none, none, none, none, none, none, none, some 0, some 1, some 2, some 3, some 4, some 5, some 6, some 7, some 8] 9 rfl (by decide) (by decide) rfl rfl (fun H locs hP hD hS => ?_)
        have hP : va_P D vwCl (ceX th0 th1 th2 th3 th4 th5 th6 th7 th8 th9 ++ (ceW cI cZ th1 wheel1 wheel2 wheel3 wheel4 u_wheel ++ (ceS cI cZ th4 sights1 sights2 u_sights ++ (ceI cI cZ th8 firstImage1 firstImage2 firstImage3 firstImage4 firstImage5 firstImage6 firstImage7 firstImage8 u_firstImage ++ (ceI cI cZ th9 secondImage1 secondImage2 secondImage3 secondImage4 secondImage5 secondImage6 secondImage7 secondImage8 u_secondImage))))) H := hP
        have hD : va_D A (ceX th0 th1 th2 th3 th4 th5 th6 th7 th8 th9 ++ (ceW cI cZ th1 wheel1 wheel2 wheel3 wheel4 u_wheel ++ (ceS cI cZ th4 sights1 sights2 u_sights ++ (ceI cI cZ th8 firstImage1 firstImage2 firstImage3 firstImage4 firstImage5 firstImage6 firstImage7 firstImage8 u_firstImage ++ (ceI cI cZ th9 secondImage1 secondImage2 secondImage3 secondImage4 secondImage5 secondImage6 secondImage7 secondImage8 u_secondImage))))) := hD
        refine lv_if_ne (tgt := 28) hx hb dX10_restore_22 (by decide) (fun c9 => ?_) (fun c9 => ?_)
        · have hf := (if_neg c9).symm.trans hf
          refine lv_aload_n hx hb dX10_restore_28 rfl (lv_at hl 0 rfl) ?_
          refine lv_aload_n hx hb dX10_restore_29 rfl (lv_at hl 1 rfl) ?_
          refine va_get (D := D) (ci := 7) (v := .ref th1) (C := RX10) (T := TX10) (N := 9) hx hb hts hi_X10 hown hK hP 0 rfl rfl 0 (by decide) (hts (.fieldLink RX10 10 "FairWheel" "wheel" "LFairWheel$Wheel;") (List.mem_of_getElem? (i := 1) rfl)) (fun _ h9 => h9) rfl dX10_restore_30 ?_
          refine lv_aload_n hx hb dX10_restore_33 rfl (lv_at hl 1 rfl) ?_
          refine va_get (D := D) (ci := 7) (v := .ref th4) (C := RX10) (T := TX10) (N := 9) hx hb hts hi_X10 hown hK hP 0 rfl rfl 3 (by decide) (hts (.fieldLink RX10 29 "FairWheel" "sights" "LFairWheel$Sights;") (List.mem_of_getElem? (i := 2) rfl)) (fun _ h9 => h9) rfl dX10_restore_34 ?_
          obtain ⟨z10, hz_z10, hf⟩ := o_bind hf
          refine k_callv (va_runV (As := [.ref th1, .ref th4]) (rest := []) ⟨hx, hb, hml, hown, hts⟩ (c_X2_giveBack l D cI cZ th9 secondImage1 secondImage2 secondImage3 secondImage4 secondImage5 secondImage6 secondImage7 secondImage8 th1 wheel1 wheel2 wheel3 wheel4 th4 sights1 sights2 H.size u_secondImage u_wheel u_sights z10 hz_z10) (cwV 2 hts gX10_restore_X2_giveBack rfl rfl rfl ⟨rfl, hd_X2_giveBack⟩ ⟨Nat.le_of_ble_eq_true rfl, Nat.le_of_ble_eq_true rfl⟩) (k_preV hK hP hD hS hA hE [18, 19, 20, 21, 22, 23, 24, 25, 26, 1, 2, 3, 4, 5, 6, 7, 8] (by decide) rfl (ci := 0) rfl rfl) rfl rfl hl.1 rfl (lv_room (Nat.le_of_ble_eq_true rfl)) dX10_restore_37 ⟨Nat.zero_le _, Nat.zero_le _⟩) hP hD hS hA [18, 19, 20, 21, 22, 23, 24, 25, 26, 1, 2, 3, 4, 5, 6, 7, 8] [none, some 9, some 10, some 11, some 12, some 13, some 14, some 15, some 16, none, none, none, none, none, none, none, none, none, some 0, some 1, some 2, some 3, some 4, some 5, some 6, some 7, some 8] 17 rfl (by decide) (by decide) rfl rfl (fun H locs hP hD hS => ?_)
          have hP : va_P D vwCl (ceX th0 th1 th2 th3 th4 th5 th6 th7 th8 th9 ++ (ceW cI cZ th1 wheel1 wheel2 wheel3 wheel4 z10.1 ++ (ceS cI cZ th4 sights1 sights2 z10.2 ++ (ceI cI cZ th8 firstImage1 firstImage2 firstImage3 firstImage4 firstImage5 firstImage6 firstImage7 firstImage8 u_firstImage ++ (ceI cI cZ th9 secondImage1 secondImage2 secondImage3 secondImage4 secondImage5 secondImage6 secondImage7 secondImage8 u_secondImage))))) H := hP
          have hD : va_D A (ceX th0 th1 th2 th3 th4 th5 th6 th7 th8 th9 ++ (ceW cI cZ th1 wheel1 wheel2 wheel3 wheel4 z10.1 ++ (ceS cI cZ th4 sights1 sights2 z10.2 ++ (ceI cI cZ th8 firstImage1 firstImage2 firstImage3 firstImage4 firstImage5 firstImage6 firstImage7 firstImage8 u_firstImage ++ (ceI cI cZ th9 secondImage1 secondImage2 secondImage3 secondImage4 secondImage5 secondImage6 secondImage7 secondImage8 u_secondImage))))) := hD
          refine lv_iconst (v := 1) hx hb dX10_restore_40 (by decide) ?_
          exact k_iret (v := (1 : Int32)) (u := (z10.1, z10.2)) hx hb hr hlocks hK hS eQ hf hP hD dX10_restore_41
        · have hf := (if_pos c9).symm.trans hf
          refine lv_bipush (v := -3) hx hb dX10_restore_25 (by decide) ?_
          exact k_iret (v := (-3 : Int32)) (u := (u_wheel, u_sights)) hx hb hr hlocks hK hS eQ hf hP hD dX10_restore_27
    · have hf := (if_neg c2).symm.trans hf
      refine lv_bipush (v := -2) hx hb dX10_restore_9 (by decide) ?_
      exact k_iret (v := (-2 : Int32)) (u := (u_wheel, u_sights)) hx hb hr hlocks hK hS eQ hf hP hD dX10_restore_11
theorem hd_X10_told : yX10_told.cls ≠ "java/lang/invoke/MethodHandle" ∧ yX10_told.cls ≠ "java/lang/invoke/VarHandle" ∧ (parseMethodDescriptor yX10_told.desc).map (fun d => d.parameters.length) = some 1 := by decide +kernel
set_option maxHeartbeats 4000000 in
set_option maxRecDepth 100000 in
theorem c_X10_told (l : Launch) (D : va_G) (cI cZ : ClassId) (th0 : Nat) (th1 : Nat) (th2 : Nat) (th3 : Nat) (th4 : Nat) (th5 : Nat) (th6 : Nat) (th7 : Nat) (th8 : Nat) (th9 : Nat) (wheel1 : Nat) (wheel2 : Nat) (wheel3 : Nat) (wheel4 : Nat) (pad1 : Nat) (sights1 : Nat) (sights2 : Nat) (sz : Nat) (u_wheel : sW) (u_pad : sP) (u_sights : sS) (p1 : Int32) (z : Int32 × Unit) (hf : f_X10_told u_wheel u_pad u_sights p1 = some z) : Met l yX10_told wsX10_told rmX10_told (va_Pc [.ref th0, .int p1] (wPr D cI cZ (ceX th0 th1 th2 th3 th4 th5 th6 th7 th8 th9 ++ (ceW cI cZ th1 wheel1 wheel2 wheel3 wheel4 u_wheel ++ (ceP cI cZ th3 pad1 u_pad ++ (ceS cI cZ th4 sights1 sights2 u_sights)))) sz)) (va_Qi (fun (r : Int32) (v : Unit) => (r, v) = z) (fun (v : Unit) t => wPo D cI cZ (va_A (ceX th0 th1 th2 th3 th4 th5 th6 th7 th8 th9 ++ (ceW cI cZ th1 wheel1 wheel2 wheel3 wheel4 u_wheel ++ (ceP cI cZ th3 pad1 u_pad ++ (ceS cI cZ th4 sights1 sights2 u_sights)))) sz) (ceX th0 th1 th2 th3 th4 th5 th6 th7 th8 th9 ++ (ceW cI cZ th1 wheel1 wheel2 wheel3 wheel4 u_wheel ++ (ceP cI cZ th3 pad1 u_pad ++ (ceS cI cZ th4 sights1 sights2 u_sights)))) t) (va_A (ceX th0 th1 th2 th3 th4 th5 th6 th7 th8 th9 ++ (ceW cI cZ th1 wheel1 wheel2 wheel3 wheel4 u_wheel ++ (ceP cI cZ th3 pad1 u_pad ++ (ceS cI cZ th4 sights1 sights2 u_sights)))) sz)) 0 0 (va_A (ceX th0 th1 th2 th3 th4 th5 th6 th7 th8 th9 ++ (ceW cI cZ th1 wheel1 wheel2 wheel3 wheel4 u_wheel ++ (ceP cI cZ th3 pad1 u_pad ++ (ceS cI cZ th4 sights1 sights2 u_sights)))) sz) := by
  refine k_enter (D := D) (cI := cI) (cZ := cZ) (wl := ceX th0 th1 th2 th3 th4 th5 th6 th7 th8 th9 ++ (ceW cI cZ th1 wheel1 wheel2 wheel3 wheel4 u_wheel ++ (ceP cI cZ th3 pad1 u_pad ++ (ceS cI cZ th4 sights1 sights2 u_sights)))) (sz := sz) (av := [.ref th0, .int p1]) (cc := cX10_told) (maxL := 2) (ret := (some .int)) (Qc := fun A => va_Qi (fun (r : Int32) (v : Unit) => (r, v) = z) (fun (v : Unit) t => wPo D cI cZ (A) (ceX th0 th1 th2 th3 th4 th5 th6 th7 th8 th9 ++ (ceW cI cZ th1 wheel1 wheel2 wheel3 wheel4 u_wheel ++ (ceP cI cZ th3 pad1 u_pad ++ (ceS cI cZ th4 sights1 sights2 u_sights)))) t) (A)) (by decide) rfl (Nat.le_of_ble_eq_true rfl) ?_
  intro p e s m below meth c ls A Q H locs eQ hx hb hr hml hts hown hlocks hK hP hD hS hA hE hl
  have hown : s.vm.findClass RX10 = some m.cls := hown
  have hl : lv_has ls 2 [(0, .ref th0), (1, .int p1)] := hl
  have hi_X10 : ∀ w ∈ wsX100, w ∈ wsX10_told := fun w h => List.mem_cons_of_mem _ (List.mem_append_left _ (List.mem_append_left _ (List.mem_append_left _ (List.mem_append_right _ h))))
  have hJ48 : ∀ (v1 : Int32) (H : Heap) (locs : List Loc) (ls : Array Slot), lv_has ls 2 [(0, .ref th0), (1, .int v1)] → va_P D vwCl (ceX th0 th1 th2 th3 th4 th5 th6 th7 th8 th9 ++ (ceW cI cZ th1 wheel1 wheel2 wheel3 wheel4 u_wheel ++ (ceP cI cZ th3 pad1 u_pad ++ (ceS cI cZ th4 sights1 sights2 u_sights)))) H → va_D A (ceX th0 th1 th2 th3 th4 th5 th6 th7 th8 th9 ++ (ceW cI cZ th1 wheel1 wheel2 wheel3 wheel4 u_wheel ++ (ceP cI cZ th3 pad1 u_pad ++ (ceS cI cZ th4 sights1 sights2 u_sights)))) → va_S A s.heap H locs → f_X10_told_J48 u_wheel u_pad u_sights v1 = some z → W p l e (headSpec wsX10_told rmX10_told).room s m ([.ref th0, .int p1] : List Value).toArray below meth c H locs 0 0 Q (F0 m 48 ls []) := by
    intro  v1 H locs ls hl hP hD hS hf
    rw [f_X10_told_J48] at hf
    refine lv_iload_n hx hb dX10_told_48 rfl (lv_at hl 1 rfl) ?_
    by_cases c3 : v1 = 0
    · have hf := (if_pos c3).symm.trans hf
      refine lv_tableIn hx hb dX10_told_49 (by rw [c3]; decide) (by rw [c3]; decide) (off := 31) (tgt := 80) (by rw [c3]; rfl) (by decide) ?_
      refine lv_aload_n hx hb dX10_told_80 rfl (lv_at hl 0 rfl) ?_
      refine va_get (D := D) (ci := 7) (v := .ref th3) (C := RX10) (T := TX10) (N := 9) hx hb hts hi_X10 hown hK hP 0 rfl rfl 2 (by decide) (hts (.fieldLink RX10 22 "FairWheel" "pad" "LFairWheel$Pad;") (List.mem_of_getElem? (i := 2) rfl)) (fun _ h9 => h9) rfl dX10_told_81 ?_
      obtain ⟨z4, hz_z4, hf⟩ := o_bind hf
      refine k_calli (va_runV (As := []) (rest := []) ⟨hx, hb, hml, hown, hts⟩ (c_X4_length l D cI cZ th3 pad1 H.size u_pad z4 hz_z4) (cwV 0 hts gX10_told_X4_length rfl rfl rfl ⟨rfl, hd_X4_length⟩ ⟨Nat.le_of_ble_eq_true rfl, Nat.le_of_ble_eq_true rfl⟩) (k_preV hK hP hD hS hA hE [6, 7] (by decide) rfl (ci := 1) rfl rfl) rfl rfl hl.1 rfl (lv_room (Nat.le_of_ble_eq_true rfl)) dX10_told_84 ⟨Nat.zero_le _, Nat.zero_le _⟩) hP hD hS hA [6, 7] [none, none, none, none, none, none, some 0, some 1, none, none, none] 2 rfl (by decide) (by decide) rfl rfl (fun H locs hP hD hS => ?_)
      have hP : va_P D vwCl (ceX th0 th1 th2 th3 th4 th5 th6 th7 th8 th9 ++ (ceW cI cZ th1 wheel1 wheel2 wheel3 wheel4 u_wheel ++ (ceP cI cZ th3 pad1 u_pad ++ (ceS cI cZ th4 sights1 sights2 u_sights)))) H := hP
      have hD : va_D A (ceX th0 th1 th2 th3 th4 th5 th6 th7 th8 th9 ++ (ceW cI cZ th1 wheel1 wheel2 wheel3 wheel4 u_wheel ++ (ceP cI cZ th3 pad1 u_pad ++ (ceS cI cZ th4 sights1 sights2 u_sights)))) := hD
      exact k_iret (v := z4.1) (u := ()) hx hb hr hlocks hK hS eQ hf hP hD dX10_told_87
    have hf := (if_neg c3).symm.trans hf
    by_cases c5 : v1 = 1
    · have hf := (if_pos c5).symm.trans hf
      refine lv_tableIn hx hb dX10_told_49 (by rw [c5]; decide) (by rw [c5]; decide) (off := 39) (tgt := 88) (by rw [c5]; rfl) (by decide) ?_
      refine lv_aload_n hx hb dX10_told_88 rfl (lv_at hl 0 rfl) ?_
      refine va_get (D := D) (ci := 7) (v := .ref th1) (C := RX10) (T := TX10) (N := 9) hx hb hts hi_X10 hown hK hP 0 rfl rfl 0 (by decide) (hts (.fieldLink RX10 10 "FairWheel" "wheel" "LFairWheel$Wheel;") (List.mem_of_getElem? (i := 1) rfl)) (fun _ h9 => h9) rfl dX10_told_89 ?_
      obtain ⟨z6, hz_z6, hf⟩ := o_bind hf
      refine k_calli (va_runV (As := []) (rest := []) ⟨hx, hb, hml, hown, hts⟩ (c_X9_friction l D cI cZ th1 wheel1 wheel2 wheel3 wheel4 H.size u_wheel z6 hz_z6) (cwV 0 hts gX10_told_X9_friction rfl rfl rfl ⟨rfl, hd_X9_friction⟩ ⟨Nat.le_of_ble_eq_true rfl, Nat.le_of_ble_eq_true rfl⟩) (k_preV hK hP hD hS hA hE [1, 2, 3, 4, 5] (by decide) rfl (ci := 6) rfl rfl) rfl rfl hl.1 rfl (lv_room (Nat.le_of_ble_eq_true rfl)) dX10_told_92 ⟨Nat.zero_le _, Nat.zero_le _⟩) hP hD hS hA [1, 2, 3, 4, 5] [none, some 0, some 1, some 2, some 3, some 4, none, none, none, none, none] 5 rfl (by decide) (by decide) rfl rfl (fun H locs hP hD hS => ?_)
      have hP : va_P D vwCl (ceX th0 th1 th2 th3 th4 th5 th6 th7 th8 th9 ++ (ceW cI cZ th1 wheel1 wheel2 wheel3 wheel4 u_wheel ++ (ceP cI cZ th3 pad1 u_pad ++ (ceS cI cZ th4 sights1 sights2 u_sights)))) H := hP
      have hD : va_D A (ceX th0 th1 th2 th3 th4 th5 th6 th7 th8 th9 ++ (ceW cI cZ th1 wheel1 wheel2 wheel3 wheel4 u_wheel ++ (ceP cI cZ th3 pad1 u_pad ++ (ceS cI cZ th4 sights1 sights2 u_sights)))) := hD
      exact k_iret (v := z6.1) (u := ()) hx hb hr hlocks hK hS eQ hf hP hD dX10_told_95
    have hf := (if_neg c5).symm.trans hf
    by_cases c7 : v1 = 2
    · have hf := (if_pos c7).symm.trans hf
      refine lv_tableIn hx hb dX10_told_49 (by rw [c7]; decide) (by rw [c7]; decide) (off := 47) (tgt := 96) (by rw [c7]; rfl) (by decide) ?_
      refine lv_aload_n hx hb dX10_told_96 rfl (lv_at hl 0 rfl) ?_
      refine va_get (D := D) (ci := 7) (v := .ref th4) (C := RX10) (T := TX10) (N := 9) hx hb hts hi_X10 hown hK hP 0 rfl rfl 3 (by decide) (hts (.fieldLink RX10 29 "FairWheel" "sights" "LFairWheel$Sights;") (List.mem_of_getElem? (i := 3) rfl)) (fun _ h9 => h9) rfl dX10_told_97 ?_
      obtain ⟨z8, hz_z8, hf⟩ := o_bind hf
      refine k_calli (va_runV (As := []) (rest := []) ⟨hx, hb, hml, hown, hts⟩ (c_X6_count l D cI cZ th4 sights1 sights2 H.size u_sights z8 hz_z8) (cwV 0 hts gX10_told_X6_count rfl rfl rfl ⟨rfl, hd_X6_count⟩ ⟨Nat.le_of_ble_eq_true rfl, Nat.le_of_ble_eq_true rfl⟩) (k_preV hK hP hD hS hA hE [8, 9, 10] (by decide) rfl (ci := 3) rfl rfl) rfl rfl hl.1 rfl (lv_room (Nat.le_of_ble_eq_true rfl)) dX10_told_100 ⟨Nat.zero_le _, Nat.zero_le _⟩) hP hD hS hA [8, 9, 10] [none, none, none, none, none, none, none, none, some 0, some 1, some 2] 3 rfl (by decide) (by decide) rfl rfl (fun H locs hP hD hS => ?_)
      have hP : va_P D vwCl (ceX th0 th1 th2 th3 th4 th5 th6 th7 th8 th9 ++ (ceW cI cZ th1 wheel1 wheel2 wheel3 wheel4 u_wheel ++ (ceP cI cZ th3 pad1 u_pad ++ (ceS cI cZ th4 sights1 sights2 u_sights)))) H := hP
      have hD : va_D A (ceX th0 th1 th2 th3 th4 th5 th6 th7 th8 th9 ++ (ceW cI cZ th1 wheel1 wheel2 wheel3 wheel4 u_wheel ++ (ceP cI cZ th3 pad1 u_pad ++ (ceS cI cZ th4 sights1 sights2 u_sights)))) := hD
      exact k_iret (v := z8.1) (u := ()) hx hb hr hlocks hK hS eQ hf hP hD dX10_told_103
    have hf := (if_neg c7).symm.trans hf
    by_cases c9 : v1 = 3
    · have hf := (if_pos c9).symm.trans hf
      refine lv_tableIn hx hb dX10_told_49 (by rw [c9]; decide) (by rw [c9]; decide) (off := 55) (tgt := 104) (by rw [c9]; rfl) (by decide) ?_
      refine lv_aload_n hx hb dX10_told_104 rfl (lv_at hl 0 rfl) ?_
      refine va_get (D := D) (ci := 7) (v := .ref th1) (C := RX10) (T := TX10) (N := 9) hx hb hts hi_X10 hown hK hP 0 rfl rfl 0 (by decide) (hts (.fieldLink RX10 10 "FairWheel" "wheel" "LFairWheel$Wheel;") (List.mem_of_getElem? (i := 1) rfl)) (fun _ h9 => h9) rfl dX10_told_105 ?_
      obtain ⟨z10, hz_z10, hf⟩ := o_bind hf
      refine k_calli (va_runV (As := []) (rest := []) ⟨hx, hb, hml, hown, hts⟩ (c_X9_takenCars l D cI cZ th1 wheel1 wheel2 wheel3 wheel4 H.size u_wheel z10 hz_z10) (cwV 0 hts gX10_told_X9_takenCars rfl rfl rfl ⟨rfl, hd_X9_takenCars⟩ ⟨Nat.le_of_ble_eq_true rfl, Nat.le_of_ble_eq_true rfl⟩) (k_preV hK hP hD hS hA hE [1, 2, 3, 4, 5] (by decide) rfl (ci := 6) rfl rfl) rfl rfl hl.1 rfl (lv_room (Nat.le_of_ble_eq_true rfl)) dX10_told_108 ⟨Nat.zero_le _, Nat.zero_le _⟩) hP hD hS hA [1, 2, 3, 4, 5] [none, some 0, some 1, some 2, some 3, some 4, none, none, none, none, none] 5 rfl (by decide) (by decide) rfl rfl (fun H locs hP hD hS => ?_)
      have hP : va_P D vwCl (ceX th0 th1 th2 th3 th4 th5 th6 th7 th8 th9 ++ (ceW cI cZ th1 wheel1 wheel2 wheel3 wheel4 u_wheel ++ (ceP cI cZ th3 pad1 u_pad ++ (ceS cI cZ th4 sights1 sights2 u_sights)))) H := hP
      have hD : va_D A (ceX th0 th1 th2 th3 th4 th5 th6 th7 th8 th9 ++ (ceW cI cZ th1 wheel1 wheel2 wheel3 wheel4 u_wheel ++ (ceP cI cZ th3 pad1 u_pad ++ (ceS cI cZ th4 sights1 sights2 u_sights)))) := hD
      exact k_iret (v := z10.1) (u := ()) hx hb hr hlocks hK hS eQ hf hP hD dX10_told_111
    have hf := (if_neg c9).symm.trans hf
    refine lv_tableOut hx hb dX10_told_49 (tgt := 112) (by have q0 := lv_neT (a := 0) c3 rfl; have q1 := lv_neT (a := 1) c5 rfl; have q2 := lv_neT (a := 2) c7 rfl; have q3 := lv_neT (a := 3) c9 rfl; omega) (by decide) ?_
    refine lv_bipush (v := -2) hx hb dX10_told_112 (by decide) ?_
    exact k_iret (v := (-2 : Int32)) (u := ()) hx hb hr hlocks hK hS eQ hf hP hD dX10_told_114
  have hJ24 : ∀ (v1 : Int32) (H : Heap) (locs : List Loc) (ls : Array Slot), lv_has ls 2 [(0, .ref th0), (1, .int v1)] → va_P D vwCl (ceX th0 th1 th2 th3 th4 th5 th6 th7 th8 th9 ++ (ceW cI cZ th1 wheel1 wheel2 wheel3 wheel4 u_wheel ++ (ceP cI cZ th3 pad1 u_pad ++ (ceS cI cZ th4 sights1 sights2 u_sights)))) H → va_D A (ceX th0 th1 th2 th3 th4 th5 th6 th7 th8 th9 ++ (ceW cI cZ th1 wheel1 wheel2 wheel3 wheel4 u_wheel ++ (ceP cI cZ th3 pad1 u_pad ++ (ceS cI cZ th4 sights1 sights2 u_sights)))) → va_S A s.heap H locs → f_X10_told_J24 u_wheel u_pad u_sights v1 = some z → W p l e (headSpec wsX10_told rmX10_told).room s m ([.ref th0, .int p1] : List Value).toArray below meth c H locs 0 0 Q (F0 m 24 ls []) := by
    intro  v1 H locs ls hl hP hD hS hf
    rw [f_X10_told_J24] at hf
    refine lv_iload_n hx hb dX10_told_24 rfl (lv_at hl 1 rfl) ?_
    refine lv_bipush (v := 20) hx hb dX10_told_25 (by decide) ?_
    refine lv_icmp_lt (tgt := 48) hx hb dX10_told_27 (by decide) (fun c2 => ?_) (fun c2 => ?_)
    · have hf := (if_pos c2).symm.trans hf
      exact hJ48 v1 _ _ ls (lv_sub hl [0, 1] rfl) hP hD hS hf
    · have hf := (if_neg c2).symm.trans hf
      refine lv_iload_n hx hb dX10_told_30 rfl (lv_at hl 1 rfl) ?_
      refine lv_bipush (v := 28) hx hb dX10_told_31 (by decide) ?_
      refine lv_icmp_ge (tgt := 48) hx hb dX10_told_33 (by decide) (fun c11 => ?_) (fun c11 => ?_)
      · have hf := (if_pos c11).symm.trans hf
        exact hJ48 v1 _ _ ls (lv_sub hl [0, 1] rfl) hP hD hS hf
      · have hf := (if_neg c11).symm.trans hf
        refine lv_aload_n hx hb dX10_told_36 rfl (lv_at hl 0 rfl) ?_
        refine va_get (D := D) (ci := 7) (v := .ref th1) (C := RX10) (T := TX10) (N := 9) hx hb hts hi_X10 hown hK hP 0 rfl rfl 0 (by decide) (hts (.fieldLink RX10 10 "FairWheel" "wheel" "LFairWheel$Wheel;") (List.mem_of_getElem? (i := 1) rfl)) (fun _ h9 => h9) rfl dX10_told_37 ?_
        refine lv_iload_n hx hb dX10_told_40 rfl (lv_at hl 1 rfl) ?_
        refine lv_bipush (v := 20) hx hb dX10_told_41 (by decide) ?_
        refine lv_isub hx hb dX10_told_43 ?_
        obtain ⟨z12, hz_z12, hf⟩ := o_bind hf
        refine k_calli (va_runV (As := [.int (v1 - (20 : Int32))]) (rest := []) ⟨hx, hb, hml, hown, hts⟩ (c_X9_carOf l D cI cZ th1 wheel1 wheel2 wheel3 wheel4 H.size u_wheel (v1 - (20 : Int32)) z12 hz_z12) (cwV 1 hts gX10_told_X9_carOf rfl rfl rfl ⟨rfl, hd_X9_carOf⟩ ⟨Nat.le_of_ble_eq_true rfl, Nat.le_of_ble_eq_true rfl⟩) (k_preV hK hP hD hS hA hE [1, 2, 3, 4, 5] (by decide) rfl (ci := 6) rfl rfl) rfl rfl hl.1 rfl (lv_room (Nat.le_of_ble_eq_true rfl)) dX10_told_44 ⟨Nat.zero_le _, Nat.zero_le _⟩) hP hD hS hA [1, 2, 3, 4, 5] [none, some 0, some 1, some 2, some 3, some 4, none, none, none, none, none] 5 rfl (by decide) (by decide) rfl rfl (fun H locs hP hD hS => ?_)
        have hP : va_P D vwCl (ceX th0 th1 th2 th3 th4 th5 th6 th7 th8 th9 ++ (ceW cI cZ th1 wheel1 wheel2 wheel3 wheel4 u_wheel ++ (ceP cI cZ th3 pad1 u_pad ++ (ceS cI cZ th4 sights1 sights2 u_sights)))) H := hP
        have hD : va_D A (ceX th0 th1 th2 th3 th4 th5 th6 th7 th8 th9 ++ (ceW cI cZ th1 wheel1 wheel2 wheel3 wheel4 u_wheel ++ (ceP cI cZ th3 pad1 u_pad ++ (ceS cI cZ th4 sights1 sights2 u_sights)))) := hD
        exact k_iret (v := z12.1) (u := ()) hx hb hr hlocks hK hS eQ hf hP hD dX10_told_47
  rw [f_X10_told] at hf
  refine lv_iload_n hx hb dX10_told_0 rfl (lv_at hl 1 rfl) ?_
  refine lv_bipush (v := 10) hx hb dX10_told_1 (by decide) ?_
  refine lv_icmp_lt (tgt := 24) hx hb dX10_told_3 (by decide) (fun c1 => ?_) (fun c1 => ?_)
  · have hf := (if_pos c1).symm.trans hf
    exact hJ24 p1 _ _ ls (lv_sub hl [0, 1] rfl) hP hD hS hf
  · have hf := (if_neg c1).symm.trans hf
    refine lv_iload_n hx hb dX10_told_6 rfl (lv_at hl 1 rfl) ?_
    refine lv_bipush (v := 18) hx hb dX10_told_7 (by decide) ?_
    refine lv_icmp_ge (tgt := 24) hx hb dX10_told_9 (by decide) (fun c13 => ?_) (fun c13 => ?_)
    · have hf := (if_pos c13).symm.trans hf
      exact hJ24 p1 _ _ ls (lv_sub hl [0, 1] rfl) hP hD hS hf
    · have hf := (if_neg c13).symm.trans hf
      refine lv_aload_n hx hb dX10_told_12 rfl (lv_at hl 0 rfl) ?_
      refine va_get (D := D) (ci := 7) (v := .ref th1) (C := RX10) (T := TX10) (N := 9) hx hb hts hi_X10 hown hK hP 0 rfl rfl 0 (by decide) (hts (.fieldLink RX10 10 "FairWheel" "wheel" "LFairWheel$Wheel;") (List.mem_of_getElem? (i := 1) rfl)) (fun _ h9 => h9) rfl dX10_told_13 ?_
      refine lv_iload_n hx hb dX10_told_16 rfl (lv_at hl 1 rfl) ?_
      refine lv_bipush (v := 10) hx hb dX10_told_17 (by decide) ?_
      refine lv_isub hx hb dX10_told_19 ?_
      obtain ⟨z14, hz_z14, hf⟩ := o_bind hf
      refine k_calli (va_runV (As := [.int (p1 - (10 : Int32))]) (rest := []) ⟨hx, hb, hml, hown, hts⟩ (c_X9_weightOf l D cI cZ th1 wheel1 wheel2 wheel3 wheel4 H.size u_wheel (p1 - (10 : Int32)) z14 hz_z14) (cwV 1 hts gX10_told_X9_weightOf rfl rfl rfl ⟨rfl, hd_X9_weightOf⟩ ⟨Nat.le_of_ble_eq_true rfl, Nat.le_of_ble_eq_true rfl⟩) (k_preV hK hP hD hS hA hE [1, 2, 3, 4, 5] (by decide) rfl (ci := 6) rfl rfl) rfl rfl hl.1 rfl (lv_room (Nat.le_of_ble_eq_true rfl)) dX10_told_20 ⟨Nat.zero_le _, Nat.zero_le _⟩) hP hD hS hA [1, 2, 3, 4, 5] [none, some 0, some 1, some 2, some 3, some 4, none, none, none, none, none] 5 rfl (by decide) (by decide) rfl rfl (fun H locs hP hD hS => ?_)
      have hP : va_P D vwCl (ceX th0 th1 th2 th3 th4 th5 th6 th7 th8 th9 ++ (ceW cI cZ th1 wheel1 wheel2 wheel3 wheel4 u_wheel ++ (ceP cI cZ th3 pad1 u_pad ++ (ceS cI cZ th4 sights1 sights2 u_sights)))) H := hP
      have hD : va_D A (ceX th0 th1 th2 th3 th4 th5 th6 th7 th8 th9 ++ (ceW cI cZ th1 wheel1 wheel2 wheel3 wheel4 u_wheel ++ (ceP cI cZ th3 pad1 u_pad ++ (ceS cI cZ th4 sights1 sights2 u_sights)))) := hD
      exact k_iret (v := z14.1) (u := ()) hx hb hr hlocks hK hS eQ hf hP hD dX10_told_23
