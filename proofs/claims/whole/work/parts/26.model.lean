theorem hd_X11_in : yX11_in.cls ≠ "java/lang/invoke/MethodHandle" ∧ yX11_in.cls ≠ "java/lang/invoke/VarHandle" ∧ (parseMethodDescriptor yX11_in.desc).map (fun d => d.parameters.length) = some 3 := by decide +kernel
set_option maxHeartbeats 4000000 in
set_option maxRecDepth 100000 in
theorem c_X11_in (l : Launch) (D : va_G) (cI cZ : ClassId) (sz : Nat) (p0 : Int32) (p1 : Int32) (p2 : Int32) (z : Int32 × Unit) (hf : f_X11_in p0 p1 p2 = some z) : Met l yX11_in wsX11_in rmX11_in (va_Pc [.int p0, .int p1, .int p2] (wPr D cI cZ (([] : va_W)) sz)) (va_Qi (fun (r : Int32) (v : Unit) => (r, v) = z) (fun (v : Unit) t => wPo D cI cZ (va_A (([] : va_W)) sz) (([] : va_W)) t) (va_A (([] : va_W)) sz)) 0 0 (va_A (([] : va_W)) sz) := by
  refine k_enter (D := D) (cI := cI) (cZ := cZ) (wl := ([] : va_W)) (sz := sz) (av := [.int p0, .int p1, .int p2]) (cc := cX11_in) (maxL := 3) (ret := (some .boolean)) (Qc := fun A => va_Qi (fun (r : Int32) (v : Unit) => (r, v) = z) (fun (v : Unit) t => wPo D cI cZ (A) (([] : va_W)) t) (A)) (by decide) rfl (Nat.le_of_ble_eq_true rfl) ?_
  intro p e s m below meth c ls A Q H locs eQ hx hb hr hml hts hown hlocks hK hP hD hS hA hE hl
  have hown : s.vm.findClass RX11 = some m.cls := hown
  have hl : lv_has ls 3 [(0, .int p0), (1, .int p1), (2, .int p2)] := hl
  rw [f_X11_in] at hf
  refine lv_iload_n hx hb dX11_in_0 rfl (lv_at hl 0 rfl) ?_
  refine lv_iload_n hx hb dX11_in_1 rfl (lv_at hl 1 rfl) ?_
  refine lv_icmp_lt (tgt := 14) hx hb dX11_in_2 (by decide) (fun c1 => ?_) (fun c1 => ?_)
  · have hf := (if_pos c1).symm.trans hf
    refine lv_iconst (v := 0) hx hb dX11_in_14 (by decide) ?_
    exact k_zret (v := (0 : Int32)) (u := ()) hx hb hr hlocks hK hS eQ (by decide) hf hP hD dX11_in_15
  · have hf := (if_neg c1).symm.trans hf
    refine lv_iload_n hx hb dX11_in_5 rfl (lv_at hl 0 rfl) ?_
    refine lv_iload_n hx hb dX11_in_6 rfl (lv_at hl 2 rfl) ?_
    refine lv_icmp_gt (tgt := 14) hx hb dX11_in_7 (by decide) (fun c2 => ?_) (fun c2 => ?_)
    · have hf := (if_pos c2).symm.trans hf
      refine lv_iconst (v := 0) hx hb dX11_in_14 (by decide) ?_
      exact k_zret (v := (0 : Int32)) (u := ()) hx hb hr hlocks hK hS eQ (by decide) hf hP hD dX11_in_15
    · have hf := (if_neg c2).symm.trans hf
      refine lv_iconst (v := 1) hx hb dX11_in_10 (by decide) ?_
      refine lv_goto (tgt := 15) hx hb dX11_in_11 (by decide) ?_
      exact k_zret (v := (1 : Int32)) (u := ()) hx hb hr hlocks hK hS eQ (by decide) hf hP hD dX11_in_15
theorem hd_X11_has : yX11_has.cls ≠ "java/lang/invoke/MethodHandle" ∧ yX11_has.cls ≠ "java/lang/invoke/VarHandle" ∧ (parseMethodDescriptor yX11_has.desc).map (fun d => d.parameters.length) = some 2 := by decide +kernel
set_option maxHeartbeats 4000000 in
set_option maxRecDepth 100000 in
theorem c_X11_has (l : Launch) (D : va_G) (cI cZ : ClassId) (sz : Nat) (p0 : Int32) (p1 : Int32) (z : Int32 × Unit) (hf : f_X11_has p0 p1 = some z) : Met l yX11_has wsX11_has rmX11_has (va_Pc [.int p0, .int p1] (wPr D cI cZ (([] : va_W)) sz)) (va_Qi (fun (r : Int32) (v : Unit) => (r, v) = z) (fun (v : Unit) t => wPo D cI cZ (va_A (([] : va_W)) sz) (([] : va_W)) t) (va_A (([] : va_W)) sz)) 0 0 (va_A (([] : va_W)) sz) := by
  refine k_enter (D := D) (cI := cI) (cZ := cZ) (wl := ([] : va_W)) (sz := sz) (av := [.int p0, .int p1]) (cc := cX11_has) (maxL := 2) (ret := (some .boolean)) (Qc := fun A => va_Qi (fun (r : Int32) (v : Unit) => (r, v) = z) (fun (v : Unit) t => wPo D cI cZ (A) (([] : va_W)) t) (A)) (by decide) rfl (Nat.le_of_ble_eq_true rfl) ?_
  intro p e s m below meth c ls A Q H locs eQ hx hb hr hml hts hown hlocks hK hP hD hS hA hE hl
  have hown : s.vm.findClass RX11 = some m.cls := hown
  have hl : lv_has ls 2 [(0, .int p0), (1, .int p1)] := hl
  rw [f_X11_has] at hf
  refine lv_iload_n hx hb dX11_has_0 rfl (lv_at hl 0 rfl) ?_
  refine lv_iload_n hx hb dX11_has_1 rfl (lv_at hl 1 rfl) ?_
  refine lv_ishr hx hb dX11_has_2 ?_
  refine lv_iconst (v := 1) hx hb dX11_has_3 (by decide) ?_
  refine lv_iand hx hb dX11_has_4 ?_
  refine lv_iconst (v := 1) hx hb dX11_has_5 (by decide) ?_
  refine lv_icmp_ne (tgt := 13) hx hb dX11_has_6 (by decide) (fun c1 => ?_) (fun c1 => ?_)
  · have hf := (if_neg c1).symm.trans hf
    refine lv_iconst (v := 0) hx hb dX11_has_13 (by decide) ?_
    exact k_zret (v := (0 : Int32)) (u := ()) hx hb hr hlocks hK hS eQ (by decide) hf hP hD dX11_has_14
  · have hf := (if_pos c1).symm.trans hf
    refine lv_iconst (v := 1) hx hb dX11_has_9 (by decide) ?_
    refine lv_goto (tgt := 14) hx hb dX11_has_10 (by decide) ?_
    exact k_zret (v := (1 : Int32)) (u := ()) hx hb hr hlocks hK hS eQ (by decide) hf hP hD dX11_has_14
theorem hd_X11_is8 : yX11_is8.cls ≠ "java/lang/invoke/MethodHandle" ∧ yX11_is8.cls ≠ "java/lang/invoke/VarHandle" ∧ (parseMethodDescriptor yX11_is8.desc).map (fun d => d.parameters.length) = some 1 := by decide +kernel
set_option maxHeartbeats 4000000 in
set_option maxRecDepth 100000 in
theorem c_X11_is8 (l : Launch) (D : va_G) (cI cZ : ClassId) (sz : Nat) (p0 : Int32) (z : Int32 × Unit) (hf : f_X11_is8 p0 = some z) : Met l yX11_is8 wsX11_is8 rmX11_is8 (va_Pc [.int p0] (wPr D cI cZ (([] : va_W)) sz)) (va_Qi (fun (r : Int32) (v : Unit) => (r, v) = z) (fun (v : Unit) t => wPo D cI cZ (va_A (([] : va_W)) sz) (([] : va_W)) t) (va_A (([] : va_W)) sz)) 0 0 (va_A (([] : va_W)) sz) := by
  refine k_enter (D := D) (cI := cI) (cZ := cZ) (wl := ([] : va_W)) (sz := sz) (av := [.int p0]) (cc := cX11_is8) (maxL := 1) (ret := (some .boolean)) (Qc := fun A => va_Qi (fun (r : Int32) (v : Unit) => (r, v) = z) (fun (v : Unit) t => wPo D cI cZ (A) (([] : va_W)) t) (A)) (by decide) rfl (Nat.le_of_ble_eq_true rfl) ?_
  intro p e s m below meth c ls A Q H locs eQ hx hb hr hml hts hown hlocks hK hP hD hS hA hE hl
  have hown : s.vm.findClass RX11 = some m.cls := hown
  have hl : lv_has ls 1 [(0, .int p0)] := hl
  rw [f_X11_is8] at hf
  refine lv_iload_n hx hb dX11_is8_0 rfl (lv_at hl 0 rfl) ?_
  refine lv_iconst (v := 0) hx hb dX11_is8_1 (by decide) ?_
  refine lv_bipush (v := 7) hx hb dX11_is8_2 (by decide) ?_
  obtain ⟨z1, hz_z1, hf⟩ := o_bind hf
  refine k_calli (va_runS (As := [.int p0, .int (0 : Int32), .int (7 : Int32)]) (rest := []) ⟨hx, hb, hml, hown, hts⟩ (c_X11_in l D cI cZ  H.size p0 (0 : Int32) (7 : Int32) z1 hz_z1) (va_cwS 3 hts gX11_is8_X11_in rfl rfl rfl hd_X11_in ⟨Nat.le_of_ble_eq_true rfl, Nat.le_of_ble_eq_true rfl⟩) (k_preS hK hP hD hS hA hE [] (by decide) rfl) rfl rfl hl.1 rfl (lv_room (Nat.le_of_ble_eq_true rfl)) dX11_is8_4 ⟨Nat.zero_le _, Nat.zero_le _⟩) hP hD hS hA [] [] 0 rfl (by decide) (by decide) rfl rfl (fun H locs hP hD hS => ?_)
  have hP : va_P D vwCl (([] : va_W)) H := hP
  have hD : va_D A (([] : va_W)) := hD
  by_cases c2 : z1.1 = 0 ∨ z1.1 = 1
  case neg =>
    have hf := (if_neg c2).symm.trans hf
    cases hf
  have hf := (if_pos c2).symm.trans hf
  exact k_zret (v := z1.1) (u := ()) hx hb hr hlocks hK hS eQ (k_zb c2) hf hP hD dX11_is8_7
theorem hd_X11_arm : yX11_arm.cls ≠ "java/lang/invoke/MethodHandle" ∧ yX11_arm.cls ≠ "java/lang/invoke/VarHandle" ∧ (parseMethodDescriptor yX11_arm.desc).map (fun d => d.parameters.length) = some 1 := by decide +kernel
set_option maxHeartbeats 4000000 in
set_option maxRecDepth 100000 in
theorem c_X11_arm (l : Launch) (D : va_G) (cI cZ : ClassId) (sz : Nat) (p0 : Int32) (z : Int32 × Unit) (hf : f_X11_arm p0 = some z) : Met l yX11_arm wsX11_arm rmX11_arm (va_Pc [.int p0] (wPr D cI cZ (([] : va_W)) sz)) (va_Qi (fun (r : Int32) (v : Unit) => (r, v) = z) (fun (v : Unit) t => wPo D cI cZ (va_A (([] : va_W)) sz) (([] : va_W)) t) (va_A (([] : va_W)) sz)) 0 0 (va_A (([] : va_W)) sz) := by
  refine k_enter (D := D) (cI := cI) (cZ := cZ) (wl := ([] : va_W)) (sz := sz) (av := [.int p0]) (cc := cX11_arm) (maxL := 3) (ret := (some .int)) (Qc := fun A => va_Qi (fun (r : Int32) (v : Unit) => (r, v) = z) (fun (v : Unit) t => wPo D cI cZ (A) (([] : va_W)) t) (A)) (by decide) rfl (Nat.le_of_ble_eq_true rfl) ?_
  intro p e s m below meth c ls A Q H locs eQ hx hb hr hml hts hown hlocks hK hP hD hS hA hE hl
  have hown : s.vm.findClass RX11 = some m.cls := hown
  have hl : lv_has ls 3 [(0, .int p0)] := hl
  have hJ33 : ∀ (v0 : Int32) (s0 : Int32) (H : Heap) (locs : List Loc) (ls : Array Slot), lv_has ls 3 [(0, .int v0)] → va_P D vwCl (([] : va_W)) H → va_D A (([] : va_W)) → va_S A s.heap H locs → f_X11_arm_J33 v0 s0 = some z → W p l e (headSpec wsX11_arm rmX11_arm).room s m ([.int p0] : List Value).toArray below meth c H locs 0 0 Q (F0 m 33 ls [.int s0]) := by
    intro  v0 s0 H locs ls hl hP hD hS hf
    rw [f_X11_arm_J33] at hf
    refine lv_istore_n (lv' := [(2, .int s0), (0, .int v0)]) hx hb dX11_arm_33 rfl hl (by decide) rfl (fun ls hl => ?_)
    refine lv_iload_n hx hb dX11_arm_34 rfl (lv_at hl 1 rfl) ?_
    refine lv_iconst (v := 4) hx hb dX11_arm_35 (by decide) ?_
    refine lv_icmp_ge (tgt := 43) hx hb dX11_arm_36 (by decide) (fun c4 => ?_) (fun c4 => ?_)
    · have hf := (if_pos c4).symm.trans hf
      refine lv_iload_n hx hb dX11_arm_43 rfl (lv_at hl 0 rfl) ?_
      refine lv_ineg hx hb dX11_arm_44 ?_
      exact k_iret (v := (-s0)) (u := ()) hx hb hr hlocks hK hS eQ hf hP hD dX11_arm_45
    · have hf := (if_neg c4).symm.trans hf
      refine lv_iload_n hx hb dX11_arm_39 rfl (lv_at hl 0 rfl) ?_
      refine lv_goto (tgt := 45) hx hb dX11_arm_40 (by decide) ?_
      exact k_iret (v := s0) (u := ()) hx hb hr hlocks hK hS eQ hf hP hD dX11_arm_45
  have hJ12 : ∀ (v0 : Int32) (s0 : Int32) (H : Heap) (locs : List Loc) (ls : Array Slot), lv_has ls 3 [(0, .int v0)] → va_P D vwCl (([] : va_W)) H → va_D A (([] : va_W)) → va_S A s.heap H locs → f_X11_arm_J12 v0 s0 = some z → W p l e (headSpec wsX11_arm rmX11_arm).room s m ([.int p0] : List Value).toArray below meth c H locs 0 0 Q (F0 m 12 ls [.int s0]) := by
    intro  v0 s0 H locs ls hl hP hD hS hf
    rw [f_X11_arm_J12] at hf
    refine lv_istore_n (lv' := [(1, .int s0), (0, .int v0)]) hx hb dX11_arm_12 rfl hl (by decide) rfl (fun ls hl => ?_)
    refine lv_iload_n hx hb dX11_arm_13 rfl (lv_at hl 0 rfl) ?_
    refine lv_if_ne (tgt := 21) hx hb dX11_arm_14 (by decide) (fun c2 => ?_) (fun c2 => ?_)
    · have hf := (if_neg c2).symm.trans hf
      refine lv_iload_n hx hb dX11_arm_21 rfl (lv_at hl 0 rfl) ?_
      refine lv_iconst (v := 2) hx hb dX11_arm_22 (by decide) ?_
      refine lv_icmp_ne (tgt := 31) hx hb dX11_arm_23 (by decide) (fun c3 => ?_) (fun c3 => ?_)
      · have hf := (if_neg c3).symm.trans hf
        refine lv_bipush (v := 7) hx hb dX11_arm_31 (by decide) ?_
        exact hJ33 v0 (7 : Int32) _ _ ls (lv_sub hl [1] rfl) hP hD hS hf
      · have hf := (if_pos c3).symm.trans hf
        refine lv_bipush (v := 10) hx hb dX11_arm_26 (by decide) ?_
        refine lv_goto (tgt := 33) hx hb dX11_arm_28 (by decide) ?_
        exact hJ33 v0 (10 : Int32) _ _ ls (lv_sub hl [1] rfl) hP hD hS hf
    · have hf := (if_pos c2).symm.trans hf
      refine lv_iconst (v := 0) hx hb dX11_arm_17 (by decide) ?_
      refine lv_goto (tgt := 33) hx hb dX11_arm_18 (by decide) ?_
      exact hJ33 v0 (0 : Int32) _ _ ls (lv_sub hl [1] rfl) hP hD hS hf
  rw [f_X11_arm] at hf
  refine lv_iload_n hx hb dX11_arm_0 rfl (lv_at hl 0 rfl) ?_
  refine lv_iconst (v := 4) hx hb dX11_arm_1 (by decide) ?_
  refine lv_icmp_ge (tgt := 9) hx hb dX11_arm_2 (by decide) (fun c1 => ?_) (fun c1 => ?_)
  · have hf := (if_pos c1).symm.trans hf
    refine lv_iload_n hx hb dX11_arm_9 rfl (lv_at hl 0 rfl) ?_
    refine lv_iconst (v := 4) hx hb dX11_arm_10 (by decide) ?_
    refine lv_isub hx hb dX11_arm_11 ?_
    exact hJ12 p0 (p0 - (4 : Int32)) _ _ ls (lv_sub hl [0] rfl) hP hD hS hf
  · have hf := (if_neg c1).symm.trans hf
    refine lv_iload_n hx hb dX11_arm_5 rfl (lv_at hl 0 rfl) ?_
    refine lv_goto (tgt := 12) hx hb dX11_arm_6 (by decide) ?_
    exact hJ12 p0 p0 _ _ ls (lv_sub hl [0] rfl) hP hD hS hf
theorem hd_X11_weigh : yX11_weigh.cls ≠ "java/lang/invoke/MethodHandle" ∧ yX11_weigh.cls ≠ "java/lang/invoke/VarHandle" ∧ (parseMethodDescriptor yX11_weigh.desc).map (fun d => d.parameters.length) = some 2 := by decide +kernel
set_option maxHeartbeats 4000000 in
set_option maxRecDepth 100000 in
theorem c_X11_weigh (l : Launch) (D : va_G) (cI cZ : ClassId) (th0 : Nat) (th1 : Nat) (th2 : Nat) (th3 : Nat) (th4 : Nat) (th5 : Nat) (th6 : Nat) (th7 : Nat) (th8 : Nat) (th9 : Nat) (sz : Nat) (u_th : sM) (p1 : Int32) (p2 : Int32) (z : Int32 × sM) (hf : f_X11_weigh u_th p1 p2 = some z) : Met l yX11_weigh wsX11_weigh rmX11_weigh (va_Pc [.ref th0, .int p1, .int p2] (wPr D cI cZ (ceM cI cZ th0 th1 th2 th3 th4 th5 th6 th7 th8 th9 u_th) sz)) (va_Qi (fun (r : Int32) (v : sM) => (r, v) = z) (fun (v : sM) t => wPo D cI cZ (va_A (ceM cI cZ th0 th1 th2 th3 th4 th5 th6 th7 th8 th9 u_th) sz) (ceM cI cZ th0 th1 th2 th3 th4 th5 th6 th7 th8 th9 v) t) (va_A (ceM cI cZ th0 th1 th2 th3 th4 th5 th6 th7 th8 th9 u_th) sz)) 0 0 (va_A (ceM cI cZ th0 th1 th2 th3 th4 th5 th6 th7 th8 th9 u_th) sz) := by
  refine k_enter (D := D) (cI := cI) (cZ := cZ) (wl := ceM cI cZ th0 th1 th2 th3 th4 th5 th6 th7 th8 th9 u_th) (sz := sz) (av := [.ref th0, .int p1, .int p2]) (cc := cX11_weigh) (maxL := 4) (ret := (some .int)) (Qc := fun A => va_Qi (fun (r : Int32) (v : sM) => (r, v) = z) (fun (v : sM) t => wPo D cI cZ (A) (ceM cI cZ th0 th1 th2 th3 th4 th5 th6 th7 th8 th9 v) t) (A)) (by decide) rfl (Nat.le_of_ble_eq_true rfl) ?_
  intro p e s m below meth c ls A Q H locs eQ hx hb hr hml hts hown hlocks hK hP hD hS hA hE hl
  have hown : s.vm.findClass RX11 = some m.cls := hown
  have hl : lv_has ls 4 [(0, .ref th0), (1, .int p1), (2, .int p2)] := hl
  have hi_X11 : ∀ w ∈ wsX110, w ∈ wsX11_weigh := fun w h => List.mem_cons_of_mem _ (List.mem_append_right _ h)
  rw [f_X11_weigh] at hf
  refine lv_iload_n hx hb dX11_weigh_0 rfl (lv_at hl 1 rfl) ?_
  obtain ⟨z1, hz_z1, hf⟩ := o_bind hf
  refine k_calli (va_runS (As := [.int p1]) (rest := []) ⟨hx, hb, hml, hown, hts⟩ (c_X11_is8 l D cI cZ  H.size p1 z1 hz_z1) (va_cwS 1 hts gX11_weigh_X11_is8 rfl rfl rfl hd_X11_is8 ⟨Nat.le_of_ble_eq_true rfl, Nat.le_of_ble_eq_true rfl⟩) (k_preS hK hP hD hS hA hE [] (by decide) rfl) rfl rfl hl.1 rfl (lv_room (Nat.le_of_ble_eq_true rfl)) dX11_weigh_1 ⟨Nat.zero_le _, Nat.zero_le _⟩) hP hD hS hA [] [none, none, none, none, none, none, none, none, none, none] 0 rfl (by decide) (by decide) rfl rfl (fun H locs hP hD hS => ?_)
  have hP : va_P D vwCl (ceM cI cZ th0 th1 th2 th3 th4 th5 th6 th7 th8 th9 u_th) H := hP
  have hD : va_D A (ceM cI cZ th0 th1 th2 th3 th4 th5 th6 th7 th8 th9 u_th) := hD
  refine lv_if_ne (tgt := 9) hx hb dX11_weigh_4 (by decide) (fun c2 => ?_) (fun c2 => ?_)
  · have hf := (if_neg c2).symm.trans hf
    refine lv_iload_n hx hb dX11_weigh_9 rfl (lv_at hl 2 rfl) ?_
    refine lv_iconst (v := 1) hx hb dX11_weigh_10 (by decide) ?_
    refine lv_bipush (v := 99) hx hb dX11_weigh_11 (by decide) ?_
    obtain ⟨z3, hz_z3, hf⟩ := o_bind hf
    refine k_calli (va_runS (As := [.int p2, .int (1 : Int32), .int (99 : Int32)]) (rest := []) ⟨hx, hb, hml, hown, hts⟩ (c_X11_in l D cI cZ  H.size p2 (1 : Int32) (99 : Int32) z3 hz_z3) (va_cwS 3 hts gX11_weigh_X11_in rfl rfl rfl hd_X11_in ⟨Nat.le_of_ble_eq_true rfl, Nat.le_of_ble_eq_true rfl⟩) (k_preS hK hP hD hS hA hE [] (by decide) rfl) rfl rfl hl.1 rfl (lv_room (Nat.le_of_ble_eq_true rfl)) dX11_weigh_13 ⟨Nat.zero_le _, Nat.zero_le _⟩) hP hD hS hA [] [none, none, none, none, none, none, none, none, none, none] 0 rfl (by decide) (by decide) rfl rfl (fun H locs hP hD hS => ?_)
    have hP : va_P D vwCl (ceM cI cZ th0 th1 th2 th3 th4 th5 th6 th7 th8 th9 u_th) H := hP
    have hD : va_D A (ceM cI cZ th0 th1 th2 th3 th4 th5 th6 th7 th8 th9 u_th) := hD
    refine lv_if_ne (tgt := 22) hx hb dX11_weigh_16 (by decide) (fun c4 => ?_) (fun c4 => ?_)
    · have hf := (if_neg c4).symm.trans hf
      refine lv_aload_n hx hb dX11_weigh_22 rfl (lv_at hl 0 rfl) ?_
      refine va_get (D := D) (ci := 8) (v := .ref th1) (C := RX11) (T := TX11) (N := 17) hx hb hts hi_X11 hown hK hP 0 rfl rfl 0 (by decide) (hts (.fieldLink RX11 7 "FairWheelModel" "weight" "[I") (List.mem_of_getElem? (i := 1) rfl)) (fun _ h9 => h9) rfl dX11_weigh_23 ?_
      refine lv_iload_n hx hb dX11_weigh_26 rfl (lv_at hl 1 rfl) ?_
      by_cases c5 : p1 < 0 ∨ 8 ≤ p1.toNatClampNeg
      · have hf := (if_pos c5).symm.trans hf
        cases hf
      have hf := (if_neg c5).symm.trans hf
      refine va_iald hx hb hK hP 1 0 rfl rfl (show vp_in p1 8 from c5) dX11_weigh_27 ?_
      refine lv_istore_n (lv' := [(3, .int ((M_weight u_th) p1.toNatClampNeg)), (0, .ref th0), (1, .int p1), (2, .int p2)]) hx hb dX11_weigh_28 rfl hl (by decide) rfl (fun ls hl => ?_)
      refine lv_aload_n hx hb dX11_weigh_29 rfl (lv_at hl 1 rfl) ?_
      refine va_get (D := D) (ci := 8) (v := .ref th1) (C := RX11) (T := TX11) (N := 17) hx hb hts hi_X11 hown hK hP 0 rfl rfl 0 (by decide) (hts (.fieldLink RX11 7 "FairWheelModel" "weight" "[I") (List.mem_of_getElem? (i := 1) rfl)) (fun _ h9 => h9) rfl dX11_weigh_30 ?_
      refine lv_iload_n hx hb dX11_weigh_33 rfl (lv_at hl 2 rfl) ?_
      refine lv_iload_n hx hb dX11_weigh_34 rfl (lv_at hl 3 rfl) ?_
      by_cases c6 : p1 < 0 ∨ 8 ≤ p1.toNatClampNeg
      · have hf := (if_pos c6).symm.trans hf
        cases hf
      have hf := (if_neg c6).symm.trans hf
      refine va_iast hx hb hK hP hD hS 1 0 rfl rfl (show vp_in p1 8 from c6) dX11_weigh_35 (fun H locs hP hD hS => ?_)
      have hP : va_P D vwCl (ceM cI cZ th0 th1 th2 th3 th4 th5 th6 th7 th8 th9 ((upd (M_weight u_th) p1.toNatClampNeg p2), (M_sits u_th), (M_stones u_th), (M_at u_th), (M_drag u_th), (M_sights u_th), (M_sight u_th), (M_signs u_th), (M_pad u_th), (M_foot u_th), (M_turned u_th), (M_bothWays u_th), (M_now u_th), (M_heap u_th), (M_reason u_th), (M_image u_th), (M_isKept u_th))) H := hP
      have hD : va_D A (ceM cI cZ th0 th1 th2 th3 th4 th5 th6 th7 th8 th9 ((upd (M_weight u_th) p1.toNatClampNeg p2), (M_sits u_th), (M_stones u_th), (M_at u_th), (M_drag u_th), (M_sights u_th), (M_sight u_th), (M_signs u_th), (M_pad u_th), (M_foot u_th), (M_turned u_th), (M_bothWays u_th), (M_now u_th), (M_heap u_th), (M_reason u_th), (M_image u_th), (M_isKept u_th))) := hD
      refine lv_iload_n hx hb dX11_weigh_36 rfl (lv_at hl 0 rfl) ?_
      exact k_iret (v := ((M_weight u_th) p1.toNatClampNeg)) (u := ((upd (M_weight u_th) p1.toNatClampNeg p2), (M_sits u_th), (M_stones u_th), (M_at u_th), (M_drag u_th), (M_sights u_th), (M_sight u_th), (M_signs u_th), (M_pad u_th), (M_foot u_th), (M_turned u_th), (M_bothWays u_th), (M_now u_th), (M_heap u_th), (M_reason u_th), (M_image u_th), (M_isKept u_th))) hx hb hr hlocks hK hS eQ hf hP hD dX11_weigh_37
    · have hf := (if_pos c4).symm.trans hf
      refine lv_bipush (v := -2) hx hb dX11_weigh_19 (by decide) ?_
      exact k_iret (v := (-2 : Int32)) (u := u_th) hx hb hr hlocks hK hS eQ hf hP hD dX11_weigh_21
  · have hf := (if_pos c2).symm.trans hf
    refine lv_iconst (v := -1) hx hb dX11_weigh_7 (by decide) ?_
    exact k_iret (v := (-1 : Int32)) (u := u_th) hx hb hr hlocks hK hS eQ hf hP hD dX11_weigh_8
theorem hd_X11_drag : yX11_drag.cls ≠ "java/lang/invoke/MethodHandle" ∧ yX11_drag.cls ≠ "java/lang/invoke/VarHandle" ∧ (parseMethodDescriptor yX11_drag.desc).map (fun d => d.parameters.length) = some 1 := by decide +kernel
set_option maxHeartbeats 4000000 in
set_option maxRecDepth 100000 in
theorem c_X11_drag (l : Launch) (D : va_G) (cI cZ : ClassId) (th0 : Nat) (th1 : Nat) (th2 : Nat) (th3 : Nat) (th4 : Nat) (th5 : Nat) (th6 : Nat) (th7 : Nat) (th8 : Nat) (th9 : Nat) (sz : Nat) (u_th : sM) (p1 : Int32) (z : Int32 × sM) (hf : f_X11_drag u_th p1 = some z) : Met l yX11_drag wsX11_drag rmX11_drag (va_Pc [.ref th0, .int p1] (wPr D cI cZ (ceM cI cZ th0 th1 th2 th3 th4 th5 th6 th7 th8 th9 u_th) sz)) (va_Qi (fun (r : Int32) (v : sM) => (r, v) = z) (fun (v : sM) t => wPo D cI cZ (va_A (ceM cI cZ th0 th1 th2 th3 th4 th5 th6 th7 th8 th9 u_th) sz) (ceM cI cZ th0 th1 th2 th3 th4 th5 th6 th7 th8 th9 v) t) (va_A (ceM cI cZ th0 th1 th2 th3 th4 th5 th6 th7 th8 th9 u_th) sz)) 0 0 (va_A (ceM cI cZ th0 th1 th2 th3 th4 th5 th6 th7 th8 th9 u_th) sz) := by
  refine k_enter (D := D) (cI := cI) (cZ := cZ) (wl := ceM cI cZ th0 th1 th2 th3 th4 th5 th6 th7 th8 th9 u_th) (sz := sz) (av := [.ref th0, .int p1]) (cc := cX11_drag) (maxL := 3) (ret := (some .int)) (Qc := fun A => va_Qi (fun (r : Int32) (v : sM) => (r, v) = z) (fun (v : sM) t => wPo D cI cZ (A) (ceM cI cZ th0 th1 th2 th3 th4 th5 th6 th7 th8 th9 v) t) (A)) (by decide) rfl (Nat.le_of_ble_eq_true rfl) ?_
  intro p e s m below meth c ls A Q H locs eQ hx hb hr hml hts hown hlocks hK hP hD hS hA hE hl
  have hown : s.vm.findClass RX11 = some m.cls := hown
  have hl : lv_has ls 3 [(0, .ref th0), (1, .int p1)] := hl
  have hi_X11 : ∀ w ∈ wsX110, w ∈ wsX11_drag := fun w h => List.mem_cons_of_mem _ (List.mem_append_right _ h)
  rw [f_X11_drag] at hf
  refine lv_iload_n hx hb dX11_drag_0 rfl (lv_at hl 1 rfl) ?_
  refine lv_iconst (v := 0) hx hb dX11_drag_1 (by decide) ?_
  refine lv_sipush (v := 9999) hx hb dX11_drag_2 (by decide) ?_
  obtain ⟨z1, hz_z1, hf⟩ := o_bind hf
  refine k_calli (va_runS (As := [.int p1, .int (0 : Int32), .int (9999 : Int32)]) (rest := []) ⟨hx, hb, hml, hown, hts⟩ (c_X11_in l D cI cZ  H.size p1 (0 : Int32) (9999 : Int32) z1 hz_z1) (va_cwS 3 hts gX11_drag_X11_in rfl rfl rfl hd_X11_in ⟨Nat.le_of_ble_eq_true rfl, Nat.le_of_ble_eq_true rfl⟩) (k_preS hK hP hD hS hA hE [] (by decide) rfl) rfl rfl hl.1 rfl (lv_room (Nat.le_of_ble_eq_true rfl)) dX11_drag_5 ⟨Nat.zero_le _, Nat.zero_le _⟩) hP hD hS hA [] [none, none, none, none, none, none, none, none, none, none] 0 rfl (by decide) (by decide) rfl rfl (fun H locs hP hD hS => ?_)
  have hP : va_P D vwCl (ceM cI cZ th0 th1 th2 th3 th4 th5 th6 th7 th8 th9 u_th) H := hP
  have hD : va_D A (ceM cI cZ th0 th1 th2 th3 th4 th5 th6 th7 th8 th9 u_th) := hD
  refine lv_if_ne (tgt := 14) hx hb dX11_drag_8 (by decide) (fun c2 => ?_) (fun c2 => ?_)
  · have hf := (if_neg c2).symm.trans hf
    refine lv_aload_n hx hb dX11_drag_14 rfl (lv_at hl 0 rfl) ?_
    refine va_get (D := D) (ci := 8) (v := .int (M_drag u_th)) (C := RX11) (T := TX11) (N := 17) hx hb hts hi_X11 hown hK hP 0 rfl rfl 4 (by decide) (hts (.fieldLink RX11 19 "FairWheelModel" "drag" "I") (List.mem_of_getElem? (i := 1) rfl)) (fun _ h9 => h9) rfl dX11_drag_15 ?_
    refine lv_istore_n (lv' := [(2, .int (M_drag u_th)), (0, .ref th0), (1, .int p1)]) hx hb dX11_drag_18 rfl hl (by decide) rfl (fun ls hl => ?_)
    refine lv_aload_n hx hb dX11_drag_19 rfl (lv_at hl 1 rfl) ?_
    refine lv_iload_n hx hb dX11_drag_20 rfl (lv_at hl 2 rfl) ?_
    refine va_put (D := D) (ci := 8) (v := .int p1) (ty := .int) (C := RX11) (T := TX11) (N := 17) hx hb hts hi_X11 tyX11 tyX11_ok nmX11 hown hK hP hD hS 0 rfl rfl 4 (by decide) (hts (.fieldLink RX11 19 "FairWheelModel" "drag" "I") (List.mem_of_getElem? (i := 1) rfl)) (fun _ h9 => h9) rfl (by decide +kernel) rfl rfl (Nat.le_of_ble_eq_true rfl) dX11_drag_21 (fun H locs hP hD hS => ?_)
    have hP : va_P D vwCl (ceM cI cZ th0 th1 th2 th3 th4 th5 th6 th7 th8 th9 ((M_weight u_th), (M_sits u_th), (M_stones u_th), (M_at u_th), p1, (M_sights u_th), (M_sight u_th), (M_signs u_th), (M_pad u_th), (M_foot u_th), (M_turned u_th), (M_bothWays u_th), (M_now u_th), (M_heap u_th), (M_reason u_th), (M_image u_th), (M_isKept u_th))) H := hP
    have hD : va_D A (ceM cI cZ th0 th1 th2 th3 th4 th5 th6 th7 th8 th9 ((M_weight u_th), (M_sits u_th), (M_stones u_th), (M_at u_th), p1, (M_sights u_th), (M_sight u_th), (M_signs u_th), (M_pad u_th), (M_foot u_th), (M_turned u_th), (M_bothWays u_th), (M_now u_th), (M_heap u_th), (M_reason u_th), (M_image u_th), (M_isKept u_th))) := hD
    refine lv_iload_n hx hb dX11_drag_24 rfl (lv_at hl 0 rfl) ?_
    exact k_iret (v := (M_drag u_th)) (u := ((M_weight u_th), (M_sits u_th), (M_stones u_th), (M_at u_th), p1, (M_sights u_th), (M_sight u_th), (M_signs u_th), (M_pad u_th), (M_foot u_th), (M_turned u_th), (M_bothWays u_th), (M_now u_th), (M_heap u_th), (M_reason u_th), (M_image u_th), (M_isKept u_th))) hx hb hr hlocks hK hS eQ hf hP hD dX11_drag_25
  · have hf := (if_pos c2).symm.trans hf
    refine lv_bipush (v := -2) hx hb dX11_drag_11 (by decide) ?_
    exact k_iret (v := (-2 : Int32)) (u := u_th) hx hb hr hlocks hK hS eQ hf hP hD dX11_drag_13
theorem hd_X11_say : yX11_say.cls ≠ "java/lang/invoke/MethodHandle" ∧ yX11_say.cls ≠ "java/lang/invoke/VarHandle" ∧ (parseMethodDescriptor yX11_say.desc).map (fun d => d.parameters.length) = some 1 := by decide +kernel
set_option maxHeartbeats 4000000 in
set_option maxRecDepth 100000 in
theorem c_X11_say (l : Launch) (D : va_G) (cI cZ : ClassId) (th0 : Nat) (th1 : Nat) (th2 : Nat) (th3 : Nat) (th4 : Nat) (th5 : Nat) (th6 : Nat) (th7 : Nat) (th8 : Nat) (th9 : Nat) (sz : Nat) (u_th : sM) (p1 : Int32) (z : Int32 × sM) (hf : f_X11_say u_th p1 = some z) : Met l yX11_say wsX11_say rmX11_say (va_Pc [.ref th0, .int p1] (wPr D cI cZ (ceM cI cZ th0 th1 th2 th3 th4 th5 th6 th7 th8 th9 u_th) sz)) (va_Qi (fun (r : Int32) (v : sM) => (r, v) = z) (fun (v : sM) t => wPo D cI cZ (va_A (ceM cI cZ th0 th1 th2 th3 th4 th5 th6 th7 th8 th9 u_th) sz) (ceM cI cZ th0 th1 th2 th3 th4 th5 th6 th7 th8 th9 v) t) (va_A (ceM cI cZ th0 th1 th2 th3 th4 th5 th6 th7 th8 th9 u_th) sz)) 0 0 (va_A (ceM cI cZ th0 th1 th2 th3 th4 th5 th6 th7 th8 th9 u_th) sz) := by
  refine k_enter (D := D) (cI := cI) (cZ := cZ) (wl := ceM cI cZ th0 th1 th2 th3 th4 th5 th6 th7 th8 th9 u_th) (sz := sz) (av := [.ref th0, .int p1]) (cc := cX11_say) (maxL := 2) (ret := (some .int)) (Qc := fun A => va_Qi (fun (r : Int32) (v : sM) => (r, v) = z) (fun (v : sM) t => wPo D cI cZ (A) (ceM cI cZ th0 th1 th2 th3 th4 th5 th6 th7 th8 th9 v) t) (A)) (by decide) rfl (Nat.le_of_ble_eq_true rfl) ?_
  intro p e s m below meth c ls A Q H locs eQ hx hb hr hml hts hown hlocks hK hP hD hS hA hE hl
  have hown : s.vm.findClass RX11 = some m.cls := hown
  have hl : lv_has ls 2 [(0, .ref th0), (1, .int p1)] := hl
  have hi_X11 : ∀ w ∈ wsX110, w ∈ wsX11_say := fun w h => List.mem_cons_of_mem _ (List.mem_append_right _ h)
  rw [f_X11_say] at hf
  refine lv_iload_n hx hb dX11_say_0 rfl (lv_at hl 1 rfl) ?_
  refine lv_bipush (v := 33) hx hb dX11_say_1 (by decide) ?_
  refine lv_bipush (v := 126) hx hb dX11_say_3 (by decide) ?_
  obtain ⟨z1, hz_z1, hf⟩ := o_bind hf
  refine k_calli (va_runS (As := [.int p1, .int (33 : Int32), .int (126 : Int32)]) (rest := []) ⟨hx, hb, hml, hown, hts⟩ (c_X11_in l D cI cZ  H.size p1 (33 : Int32) (126 : Int32) z1 hz_z1) (va_cwS 3 hts gX11_say_X11_in rfl rfl rfl hd_X11_in ⟨Nat.le_of_ble_eq_true rfl, Nat.le_of_ble_eq_true rfl⟩) (k_preS hK hP hD hS hA hE [] (by decide) rfl) rfl rfl hl.1 rfl (lv_room (Nat.le_of_ble_eq_true rfl)) dX11_say_5 ⟨Nat.zero_le _, Nat.zero_le _⟩) hP hD hS hA [] [none, none, none, none, none, none, none, none, none, none] 0 rfl (by decide) (by decide) rfl rfl (fun H locs hP hD hS => ?_)
  have hP : va_P D vwCl (ceM cI cZ th0 th1 th2 th3 th4 th5 th6 th7 th8 th9 u_th) H := hP
  have hD : va_D A (ceM cI cZ th0 th1 th2 th3 th4 th5 th6 th7 th8 th9 u_th) := hD
  refine lv_if_ne (tgt := 14) hx hb dX11_say_8 (by decide) (fun c2 => ?_) (fun c2 => ?_)
  · have hf := (if_neg c2).symm.trans hf
    refine lv_aload_n hx hb dX11_say_14 rfl (lv_at hl 0 rfl) ?_
    refine va_get (D := D) (ci := 8) (v := .int (M_signs u_th)) (C := RX11) (T := TX11) (N := 17) hx hb hts hi_X11 hown hK hP 0 rfl rfl 7 (by decide) (hts (.fieldLink RX11 50 "FairWheelModel" "signs" "I") (List.mem_of_getElem? (i := 1) rfl)) (fun _ h9 => h9) rfl dX11_say_15 ?_
    refine lv_bipush (v := 60) hx hb dX11_say_18 (by decide) ?_
    refine lv_icmp_ne (tgt := 26) hx hb dX11_say_20 (by decide) (fun c3 => ?_) (fun c3 => ?_)
    · have hf := (if_neg c3).symm.trans hf
      refine lv_aload_n hx hb dX11_say_26 rfl (lv_at hl 0 rfl) ?_
      refine va_get (D := D) (ci := 8) (v := .ref th5) (C := RX11) (T := TX11) (N := 17) hx hb hts hi_X11 hown hK hP 0 rfl rfl 8 (by decide) (hts (.fieldLink RX11 26 "FairWheelModel" "pad" "[I") (List.mem_of_getElem? (i := 2) rfl)) (fun _ h9 => h9) rfl dX11_say_27 ?_
      refine lv_aload_n hx hb dX11_say_30 rfl (lv_at hl 0 rfl) ?_
      refine va_get (D := D) (ci := 8) (v := .int (M_signs u_th)) (C := RX11) (T := TX11) (N := 17) hx hb hts hi_X11 hown hK hP 0 rfl rfl 7 (by decide) (hts (.fieldLink RX11 50 "FairWheelModel" "signs" "I") (List.mem_of_getElem? (i := 1) rfl)) (fun _ h9 => h9) rfl dX11_say_31 ?_
      refine lv_iload_n hx hb dX11_say_34 rfl (lv_at hl 1 rfl) ?_
      by_cases c4 : (M_signs u_th) < 0 ∨ 60 ≤ (M_signs u_th).toNatClampNeg
      · have hf := (if_pos c4).symm.trans hf
        cases hf
      have hf := (if_neg c4).symm.trans hf
      refine va_iast hx hb hK hP hD hS 5 0 rfl rfl (show vp_in (M_signs u_th) 60 from c4) dX11_say_35 (fun H locs hP hD hS => ?_)
      have hP : va_P D vwCl (ceM cI cZ th0 th1 th2 th3 th4 th5 th6 th7 th8 th9 ((M_weight u_th), (M_sits u_th), (M_stones u_th), (M_at u_th), (M_drag u_th), (M_sights u_th), (M_sight u_th), (M_signs u_th), (upd (M_pad u_th) (M_signs u_th).toNatClampNeg p1), (M_foot u_th), (M_turned u_th), (M_bothWays u_th), (M_now u_th), (M_heap u_th), (M_reason u_th), (M_image u_th), (M_isKept u_th))) H := hP
      have hD : va_D A (ceM cI cZ th0 th1 th2 th3 th4 th5 th6 th7 th8 th9 ((M_weight u_th), (M_sits u_th), (M_stones u_th), (M_at u_th), (M_drag u_th), (M_sights u_th), (M_sight u_th), (M_signs u_th), (upd (M_pad u_th) (M_signs u_th).toNatClampNeg p1), (M_foot u_th), (M_turned u_th), (M_bothWays u_th), (M_now u_th), (M_heap u_th), (M_reason u_th), (M_image u_th), (M_isKept u_th))) := hD
      refine lv_aload_n hx hb dX11_say_36 rfl (lv_at hl 0 rfl) ?_
      refine lv_dup hx hb dX11_say_37 rfl ?_
      refine va_get (D := D) (ci := 8) (v := .int (M_signs u_th)) (C := RX11) (T := TX11) (N := 17) hx hb hts hi_X11 hown hK hP 0 rfl rfl 7 (by decide) (hts (.fieldLink RX11 50 "FairWheelModel" "signs" "I") (List.mem_of_getElem? (i := 1) rfl)) (fun _ h9 => h9) rfl dX11_say_38 ?_
      refine lv_iconst (v := 1) hx hb dX11_say_41 (by decide) ?_
      refine lv_iadd hx hb dX11_say_42 ?_
      refine va_put (D := D) (ci := 8) (v := .int ((M_signs u_th) + (1 : Int32))) (ty := .int) (C := RX11) (T := TX11) (N := 17) hx hb hts hi_X11 tyX11 tyX11_ok nmX11 hown hK hP hD hS 0 rfl rfl 7 (by decide) (hts (.fieldLink RX11 50 "FairWheelModel" "signs" "I") (List.mem_of_getElem? (i := 1) rfl)) (fun _ h9 => h9) rfl (by decide +kernel) rfl rfl (Nat.le_of_ble_eq_true rfl) dX11_say_43 (fun H locs hP hD hS => ?_)
      have hP : va_P D vwCl (ceM cI cZ th0 th1 th2 th3 th4 th5 th6 th7 th8 th9 ((M_weight u_th), (M_sits u_th), (M_stones u_th), (M_at u_th), (M_drag u_th), (M_sights u_th), (M_sight u_th), ((M_signs u_th) + (1 : Int32)), (upd (M_pad u_th) (M_signs u_th).toNatClampNeg p1), (M_foot u_th), (M_turned u_th), (M_bothWays u_th), (M_now u_th), (M_heap u_th), (M_reason u_th), (M_image u_th), (M_isKept u_th))) H := hP
      have hD : va_D A (ceM cI cZ th0 th1 th2 th3 th4 th5 th6 th7 th8 th9 ((M_weight u_th), (M_sits u_th), (M_stones u_th), (M_at u_th), (M_drag u_th), (M_sights u_th), (M_sight u_th), ((M_signs u_th) + (1 : Int32)), (upd (M_pad u_th) (M_signs u_th).toNatClampNeg p1), (M_foot u_th), (M_turned u_th), (M_bothWays u_th), (M_now u_th), (M_heap u_th), (M_reason u_th), (M_image u_th), (M_isKept u_th))) := hD
      refine lv_aload_n hx hb dX11_say_46 rfl (lv_at hl 0 rfl) ?_
      refine va_get (D := D) (ci := 8) (v := .int ((M_signs u_th) + (1 : Int32))) (C := RX11) (T := TX11) (N := 17) hx hb hts hi_X11 hown hK hP 0 rfl rfl 7 (by decide) (hts (.fieldLink RX11 50 "FairWheelModel" "signs" "I") (List.mem_of_getElem? (i := 1) rfl)) (fun _ h9 => h9) rfl dX11_say_47 ?_
      exact k_iret (v := ((M_signs u_th) + (1 : Int32))) (u := ((M_weight u_th), (M_sits u_th), (M_stones u_th), (M_at u_th), (M_drag u_th), (M_sights u_th), (M_sight u_th), ((M_signs u_th) + (1 : Int32)), (upd (M_pad u_th) (M_signs u_th).toNatClampNeg p1), (M_foot u_th), (M_turned u_th), (M_bothWays u_th), (M_now u_th), (M_heap u_th), (M_reason u_th), (M_image u_th), (M_isKept u_th))) hx hb hr hlocks hK hS eQ hf hP hD dX11_say_50
    · have hf := (if_pos c3).symm.trans hf
      refine lv_bipush (v := -4) hx hb dX11_say_23 (by decide) ?_
      exact k_iret (v := (-4 : Int32)) (u := u_th) hx hb hr hlocks hK hS eQ hf hP hD dX11_say_25
  · have hf := (if_pos c2).symm.trans hf
    refine lv_bipush (v := -2) hx hb dX11_say_11 (by decide) ?_
    exact k_iret (v := (-2 : Int32)) (u := u_th) hx hb hr hlocks hK hS eQ hf hP hD dX11_say_13
theorem hd_X11_wipe : yX11_wipe.cls ≠ "java/lang/invoke/MethodHandle" ∧ yX11_wipe.cls ≠ "java/lang/invoke/VarHandle" ∧ (parseMethodDescriptor yX11_wipe.desc).map (fun d => d.parameters.length) = some 0 := by decide +kernel
set_option maxHeartbeats 4000000 in
set_option maxRecDepth 100000 in
theorem c_X11_wipe (l : Launch) (D : va_G) (cI cZ : ClassId) (th0 : Nat) (th1 : Nat) (th2 : Nat) (th3 : Nat) (th4 : Nat) (th5 : Nat) (th6 : Nat) (th7 : Nat) (th8 : Nat) (th9 : Nat) (sz : Nat) (u_th : sM) (z : Int32 × sM) (hf : f_X11_wipe u_th = some z) : Met l yX11_wipe wsX11_wipe rmX11_wipe (va_Pc [.ref th0] (wPr D cI cZ (ceM cI cZ th0 th1 th2 th3 th4 th5 th6 th7 th8 th9 u_th) sz)) (va_Qi (fun (r : Int32) (v : sM) => (r, v) = z) (fun (v : sM) t => wPo D cI cZ (va_A (ceM cI cZ th0 th1 th2 th3 th4 th5 th6 th7 th8 th9 u_th) sz) (ceM cI cZ th0 th1 th2 th3 th4 th5 th6 th7 th8 th9 v) t) (va_A (ceM cI cZ th0 th1 th2 th3 th4 th5 th6 th7 th8 th9 u_th) sz)) 0 0 (va_A (ceM cI cZ th0 th1 th2 th3 th4 th5 th6 th7 th8 th9 u_th) sz) := by
  refine k_enter (D := D) (cI := cI) (cZ := cZ) (wl := ceM cI cZ th0 th1 th2 th3 th4 th5 th6 th7 th8 th9 u_th) (sz := sz) (av := [.ref th0]) (cc := cX11_wipe) (maxL := 2) (ret := (some .int)) (Qc := fun A => va_Qi (fun (r : Int32) (v : sM) => (r, v) = z) (fun (v : sM) t => wPo D cI cZ (A) (ceM cI cZ th0 th1 th2 th3 th4 th5 th6 th7 th8 th9 v) t) (A)) (by decide) rfl (Nat.le_of_ble_eq_true rfl) ?_
  intro p e s m below meth c ls A Q H locs eQ hx hb hr hml hts hown hlocks hK hP hD hS hA hE hl
  have hown : s.vm.findClass RX11 = some m.cls := hown
  have hl : lv_has ls 2 [(0, .ref th0)] := hl
  have hi_X11 : ∀ w ∈ wsX110, w ∈ wsX11_wipe := fun w h => List.mem_cons_of_mem _ (List.mem_append_right _ h)
  rw [f_X11_wipe] at hf
  refine lv_aload_n hx hb dX11_wipe_0 rfl (lv_at hl 0 rfl) ?_
  refine va_get (D := D) (ci := 8) (v := .int (M_signs u_th)) (C := RX11) (T := TX11) (N := 17) hx hb hts hi_X11 hown hK hP 0 rfl rfl 7 (by decide) (hts (.fieldLink RX11 50 "FairWheelModel" "signs" "I") (List.mem_of_getElem? (i := 1) rfl)) (fun _ h9 => h9) rfl dX11_wipe_1 ?_
  refine lv_istore_n (lv' := [(1, .int (M_signs u_th)), (0, .ref th0)]) hx hb dX11_wipe_4 rfl hl (by decide) rfl (fun ls hl => ?_)
  refine lv_aload_n hx hb dX11_wipe_5 rfl (lv_at hl 1 rfl) ?_
  refine lv_iconst (v := 0) hx hb dX11_wipe_6 (by decide) ?_
  refine va_put (D := D) (ci := 8) (v := .int (0 : Int32)) (ty := .int) (C := RX11) (T := TX11) (N := 17) hx hb hts hi_X11 tyX11 tyX11_ok nmX11 hown hK hP hD hS 0 rfl rfl 7 (by decide) (hts (.fieldLink RX11 50 "FairWheelModel" "signs" "I") (List.mem_of_getElem? (i := 1) rfl)) (fun _ h9 => h9) rfl (by decide +kernel) rfl rfl (Nat.le_of_ble_eq_true rfl) dX11_wipe_7 (fun H locs hP hD hS => ?_)
  have hP : va_P D vwCl (ceM cI cZ th0 th1 th2 th3 th4 th5 th6 th7 th8 th9 ((M_weight u_th), (M_sits u_th), (M_stones u_th), (M_at u_th), (M_drag u_th), (M_sights u_th), (M_sight u_th), (0 : Int32), (M_pad u_th), (M_foot u_th), (M_turned u_th), (M_bothWays u_th), (M_now u_th), (M_heap u_th), (M_reason u_th), (M_image u_th), (M_isKept u_th))) H := hP
  have hD : va_D A (ceM cI cZ th0 th1 th2 th3 th4 th5 th6 th7 th8 th9 ((M_weight u_th), (M_sits u_th), (M_stones u_th), (M_at u_th), (M_drag u_th), (M_sights u_th), (M_sight u_th), (0 : Int32), (M_pad u_th), (M_foot u_th), (M_turned u_th), (M_bothWays u_th), (M_now u_th), (M_heap u_th), (M_reason u_th), (M_image u_th), (M_isKept u_th))) := hD
  refine lv_iload_n hx hb dX11_wipe_10 rfl (lv_at hl 0 rfl) ?_
  exact k_iret (v := (M_signs u_th)) (u := ((M_weight u_th), (M_sits u_th), (M_stones u_th), (M_at u_th), (M_drag u_th), (M_sights u_th), (M_sight u_th), (0 : Int32), (M_pad u_th), (M_foot u_th), (M_turned u_th), (M_bothWays u_th), (M_now u_th), (M_heap u_th), (M_reason u_th), (M_image u_th), (M_isKept u_th))) hx hb hr hlocks hK hS eQ hf hP hD dX11_wipe_11
theorem hd_X11_faultOf : yX11_faultOf.cls ≠ "java/lang/invoke/MethodHandle" ∧ yX11_faultOf.cls ≠ "java/lang/invoke/VarHandle" ∧ (parseMethodDescriptor yX11_faultOf.desc).map (fun d => d.parameters.length) = some 0 := by decide +kernel
set_option maxHeartbeats 4000000 in
set_option maxRecDepth 100000 in
theorem c_X11_faultOf (l : Launch) (D : va_G) (cI cZ : ClassId) (th0 : Nat) (th1 : Nat) (th2 : Nat) (th3 : Nat) (th4 : Nat) (th5 : Nat) (th6 : Nat) (th7 : Nat) (th8 : Nat) (th9 : Nat) (sz : Nat) (u_th : sM) (z : Int32 × Unit) (hf : f_X11_faultOf u_th = some z) : Met l yX11_faultOf wsX11_faultOf rmX11_faultOf (va_Pc [.ref th0] (wPr D cI cZ (ceM cI cZ th0 th1 th2 th3 th4 th5 th6 th7 th8 th9 u_th) sz)) (va_Qi (fun (r : Int32) (v : Unit) => (r, v) = z) (fun (v : Unit) t => wPo D cI cZ (va_A (ceM cI cZ th0 th1 th2 th3 th4 th5 th6 th7 th8 th9 u_th) sz) (ceM cI cZ th0 th1 th2 th3 th4 th5 th6 th7 th8 th9 u_th) t) (va_A (ceM cI cZ th0 th1 th2 th3 th4 th5 th6 th7 th8 th9 u_th) sz)) 0 0 (va_A (ceM cI cZ th0 th1 th2 th3 th4 th5 th6 th7 th8 th9 u_th) sz) := by
  refine k_enter (D := D) (cI := cI) (cZ := cZ) (wl := ceM cI cZ th0 th1 th2 th3 th4 th5 th6 th7 th8 th9 u_th) (sz := sz) (av := [.ref th0]) (cc := cX11_faultOf) (maxL := 5) (ret := (some .int)) (Qc := fun A => va_Qi (fun (r : Int32) (v : Unit) => (r, v) = z) (fun (v : Unit) t => wPo D cI cZ (A) (ceM cI cZ th0 th1 th2 th3 th4 th5 th6 th7 th8 th9 u_th) t) (A)) (by decide) rfl (Nat.le_of_ble_eq_true rfl) ?_
  intro p e s m below meth c ls A Q H locs eQ hx hb hr hml hts hown hlocks hK hP hD hS hA hE hl
  have hown : s.vm.findClass RX11 = some m.cls := hown
  have hl : lv_has ls 5 [(0, .ref th0)] := hl
  have hi_X11 : ∀ w ∈ wsX110, w ∈ wsX11_faultOf := fun w h => List.mem_cons_of_mem _ (List.mem_append_right _ h)
  have hJ100 : ∀ (K_4 : Int32 → Int32 → Option (Int32 × Unit)), (∀ (v1 : Int32) (v2 : Int32) (H : Heap) (locs : List Loc) (ls : Array Slot), lv_has ls 5 [(0, .ref th0), (1, .int v1), (2, .int v2)] → va_P D vwCl (ceM cI cZ th0 th1 th2 th3 th4 th5 th6 th7 th8 th9 u_th) H → va_D A (ceM cI cZ th0 th1 th2 th3 th4 th5 th6 th7 th8 th9 u_th) → va_S A s.heap H locs → K_4 v1 v2 = some z → W p l e (headSpec wsX11_faultOf rmX11_faultOf).room s m ([.ref th0] : List Value).toArray below meth c H locs 0 0 Q (F0 m 4 ls [])) → ∀ (v1 : Int32) (v2 : Int32) (s0 : Int32) (H : Heap) (locs : List Loc) (ls : Array Slot), lv_has ls 5 [(0, .ref th0), (1, .int v1), (2, .int v2)] → va_P D vwCl (ceM cI cZ th0 th1 th2 th3 th4 th5 th6 th7 th8 th9 u_th) H → va_D A (ceM cI cZ th0 th1 th2 th3 th4 th5 th6 th7 th8 th9 u_th) → va_S A s.heap H locs → f_X11_faultOf_J100 u_th K_4 v1 v2 s0 = some z → W p l e (headSpec wsX11_faultOf rmX11_faultOf).room s m ([.ref th0] : List Value).toArray below meth c H locs 0 0 Q (F0 m 100 ls [.int s0]) := by
    intro K_4 hK_4 v1 v2 s0 H locs ls hl hP hD hS hf
    rw [f_X11_faultOf_J100] at hf
    refine lv_istore (lv' := [(4, .int s0), (0, .ref th0), (1, .int v1), (2, .int v2)]) hx hb dX11_faultOf_100 hl (by decide) rfl (fun ls hl => ?_)
    refine lv_iload hx hb dX11_faultOf_102 (lv_at hl 0 rfl) ?_
    refine lv_if_ne (tgt := 109) hx hb dX11_faultOf_104 (by decide) (fun c6 => ?_) (fun c6 => ?_)
    · have hf := (if_neg c6).symm.trans hf
      refine lv_iinc (v := (v2 + (1 : Int32))) (lv' := [(2, .int (v2 + (1 : Int32))), (4, .int s0), (0, .ref th0), (1, .int v1)]) hx hb dX11_faultOf_109 hl (k := 3) rfl rfl (by decide) rfl (fun ls hl => ?_)
      refine lv_goto (tgt := 4) hx hb dX11_faultOf_112 (by decide) ?_
      exact hK_4 v1 (v2 + (1 : Int32)) _ _ ls (lv_sub hl [2, 3, 0] rfl) hP hD hS hf
    · have hf := (if_pos c6).symm.trans hf
      refine lv_iload_n hx hb dX11_faultOf_107 rfl (lv_at hl 3 rfl) ?_
      exact k_iret (v := v2) (u := ()) hx hb hr hlocks hK hS eQ hf hP hD dX11_faultOf_108
  have hJ31 : ∀ (K_4 : Int32 → Int32 → Option (Int32 × Unit)), (∀ (v1 : Int32) (v2 : Int32) (H : Heap) (locs : List Loc) (ls : Array Slot), lv_has ls 5 [(0, .ref th0), (1, .int v1), (2, .int v2)] → va_P D vwCl (ceM cI cZ th0 th1 th2 th3 th4 th5 th6 th7 th8 th9 u_th) H → va_D A (ceM cI cZ th0 th1 th2 th3 th4 th5 th6 th7 th8 th9 u_th) → va_S A s.heap H locs → K_4 v1 v2 = some z → W p l e (headSpec wsX11_faultOf rmX11_faultOf).room s m ([.ref th0] : List Value).toArray below meth c H locs 0 0 Q (F0 m 4 ls [])) → ∀ (v2 : Int32) (v3 : Int32) (s0 : Int32) (s1 : Int32) (H : Heap) (locs : List Loc) (ls : Array Slot), lv_has ls 5 [(0, .ref th0), (2, .int v2), (3, .int v3)] → va_P D vwCl (ceM cI cZ th0 th1 th2 th3 th4 th5 th6 th7 th8 th9 u_th) H → va_D A (ceM cI cZ th0 th1 th2 th3 th4 th5 th6 th7 th8 th9 u_th) → va_S A s.heap H locs → f_X11_faultOf_J31 u_th K_4 v2 v3 s0 s1 = some z → W p l e (headSpec wsX11_faultOf rmX11_faultOf).room s m ([.ref th0] : List Value).toArray below meth c H locs 0 0 Q (F0 m 31 ls [.int s1, .int s0]) := by
    intro K_4 hK_4 v2 v3 s0 s1 H locs ls hl hP hD hS hf
    rw [f_X11_faultOf_J31] at hf
    refine lv_iadd hx hb dX11_faultOf_31 ?_
    refine lv_istore_n (lv' := [(1, .int (s0 + s1)), (0, .ref th0), (2, .int v2), (3, .int v3)]) hx hb dX11_faultOf_32 rfl hl (by decide) rfl (fun ls hl => ?_)
    refine lv_iload_n hx hb dX11_faultOf_33 rfl (lv_at hl 3 rfl) ?_
    refine lv_bipush (v := 65) hx hb dX11_faultOf_34 (by decide) ?_
    refine lv_bipush (v := 72) hx hb dX11_faultOf_36 (by decide) ?_
    obtain ⟨z4, hz_z4, hf⟩ := o_bind hf
    refine k_calli (va_runS (As := [.int v3, .int (65 : Int32), .int (72 : Int32)]) (rest := []) ⟨hx, hb, hml, hown, hts⟩ (c_X11_in l D cI cZ  H.size v3 (65 : Int32) (72 : Int32) z4 hz_z4) (va_cwS 3 hts gX11_faultOf_X11_in rfl rfl rfl hd_X11_in ⟨Nat.le_of_ble_eq_true rfl, Nat.le_of_ble_eq_true rfl⟩) (k_preS hK hP hD hS hA hE [] (by decide) rfl) rfl rfl hl.1 rfl (lv_room (Nat.le_of_ble_eq_true rfl)) dX11_faultOf_38 ⟨Nat.zero_le _, Nat.zero_le _⟩) hP hD hS hA [] [none, none, none, none, none, none, none, none, none, none] 0 rfl (by decide) (by decide) rfl rfl (fun H locs hP hD hS => ?_)
    have hP : va_P D vwCl (ceM cI cZ th0 th1 th2 th3 th4 th5 th6 th7 th8 th9 u_th) H := hP
    have hD : va_D A (ceM cI cZ th0 th1 th2 th3 th4 th5 th6 th7 th8 th9 u_th) := hD
    refine lv_if_ne (tgt := 95) hx hb dX11_faultOf_41 (by decide) (fun c5 => ?_) (fun c5 => ?_)
    · have hf := (if_neg c5).symm.trans hf
      refine lv_iconst (v := 1) hx hb dX11_faultOf_95 (by decide) ?_
      refine lv_goto (tgt := 100) hx hb dX11_faultOf_96 (by decide) ?_
      exact hJ100 K_4 hK_4 (s0 + s1) v2 (1 : Int32) _ _ ls (lv_sub hl [1, 0, 2] rfl) hP hD hS hf
    · have hf := (if_pos c5).symm.trans hf
      refine lv_iload_n hx hb dX11_faultOf_44 rfl (lv_at hl 3 rfl) ?_
      refine lv_bipush (v := 97) hx hb dX11_faultOf_45 (by decide) ?_
      refine lv_bipush (v := 104) hx hb dX11_faultOf_47 (by decide) ?_
      obtain ⟨z7, hz_z7, hf⟩ := o_bind hf
      refine k_calli (va_runS (As := [.int v3, .int (97 : Int32), .int (104 : Int32)]) (rest := []) ⟨hx, hb, hml, hown, hts⟩ (c_X11_in l D cI cZ  H.size v3 (97 : Int32) (104 : Int32) z7 hz_z7) (va_cwS 3 hts gX11_faultOf_X11_in rfl rfl rfl hd_X11_in ⟨Nat.le_of_ble_eq_true rfl, Nat.le_of_ble_eq_true rfl⟩) (k_preS hK hP hD hS hA hE [] (by decide) rfl) rfl rfl hl.1 rfl (lv_room (Nat.le_of_ble_eq_true rfl)) dX11_faultOf_49 ⟨Nat.zero_le _, Nat.zero_le _⟩) hP hD hS hA [] [none, none, none, none, none, none, none, none, none, none] 0 rfl (by decide) (by decide) rfl rfl (fun H locs hP hD hS => ?_)
      have hP : va_P D vwCl (ceM cI cZ th0 th1 th2 th3 th4 th5 th6 th7 th8 th9 u_th) H := hP
      have hD : va_D A (ceM cI cZ th0 th1 th2 th3 th4 th5 th6 th7 th8 th9 u_th) := hD
      refine lv_if_ne (tgt := 95) hx hb dX11_faultOf_52 (by decide) (fun c8 => ?_) (fun c8 => ?_)
      · have hf := (if_neg c8).symm.trans hf
        refine lv_iconst (v := 1) hx hb dX11_faultOf_95 (by decide) ?_
        refine lv_goto (tgt := 100) hx hb dX11_faultOf_96 (by decide) ?_
        exact hJ100 K_4 hK_4 (s0 + s1) v2 (1 : Int32) _ _ ls (lv_sub hl [1, 0, 2] rfl) hP hD hS hf
      · have hf := (if_pos c8).symm.trans hf
        refine lv_iload_n hx hb dX11_faultOf_55 rfl (lv_at hl 3 rfl) ?_
        refine lv_bipush (v := 48) hx hb dX11_faultOf_56 (by decide) ?_
        refine lv_bipush (v := 57) hx hb dX11_faultOf_58 (by decide) ?_
        obtain ⟨z9, hz_z9, hf⟩ := o_bind hf
        refine k_calli (va_runS (As := [.int v3, .int (48 : Int32), .int (57 : Int32)]) (rest := []) ⟨hx, hb, hml, hown, hts⟩ (c_X11_in l D cI cZ  H.size v3 (48 : Int32) (57 : Int32) z9 hz_z9) (va_cwS 3 hts gX11_faultOf_X11_in rfl rfl rfl hd_X11_in ⟨Nat.le_of_ble_eq_true rfl, Nat.le_of_ble_eq_true rfl⟩) (k_preS hK hP hD hS hA hE [] (by decide) rfl) rfl rfl hl.1 rfl (lv_room (Nat.le_of_ble_eq_true rfl)) dX11_faultOf_60 ⟨Nat.zero_le _, Nat.zero_le _⟩) hP hD hS hA [] [none, none, none, none, none, none, none, none, none, none] 0 rfl (by decide) (by decide) rfl rfl (fun H locs hP hD hS => ?_)
        have hP : va_P D vwCl (ceM cI cZ th0 th1 th2 th3 th4 th5 th6 th7 th8 th9 u_th) H := hP
        have hD : va_D A (ceM cI cZ th0 th1 th2 th3 th4 th5 th6 th7 th8 th9 u_th) := hD
        refine lv_if_ne (tgt := 95) hx hb dX11_faultOf_63 (by decide) (fun c10 => ?_) (fun c10 => ?_)
        · have hf := (if_neg c10).symm.trans hf
          refine lv_iconst (v := 1) hx hb dX11_faultOf_95 (by decide) ?_
          refine lv_goto (tgt := 100) hx hb dX11_faultOf_96 (by decide) ?_
          exact hJ100 K_4 hK_4 (s0 + s1) v2 (1 : Int32) _ _ ls (lv_sub hl [1, 0, 2] rfl) hP hD hS hf
        · have hf := (if_pos c10).symm.trans hf
          refine lv_iload_n hx hb dX11_faultOf_66 rfl (lv_at hl 3 rfl) ?_
          refine lv_bipush (v := 94) hx hb dX11_faultOf_67 (by decide) ?_
          refine lv_icmp_eq (tgt := 95) hx hb dX11_faultOf_69 (by decide) (fun c11 => ?_) (fun c11 => ?_)
          · have hf := (if_pos c11).symm.trans hf
            refine lv_iconst (v := 1) hx hb dX11_faultOf_95 (by decide) ?_
            refine lv_goto (tgt := 100) hx hb dX11_faultOf_96 (by decide) ?_
            exact hJ100 K_4 hK_4 (s0 + s1) v2 (1 : Int32) _ _ ls (lv_sub hl [1, 0, 2] rfl) hP hD hS hf
          · have hf := (if_neg c11).symm.trans hf
            refine lv_iload_n hx hb dX11_faultOf_72 rfl (lv_at hl 3 rfl) ?_
            refine lv_bipush (v := 60) hx hb dX11_faultOf_73 (by decide) ?_
            refine lv_icmp_eq (tgt := 95) hx hb dX11_faultOf_75 (by decide) (fun c12 => ?_) (fun c12 => ?_)
            · have hf := (if_pos c12).symm.trans hf
              refine lv_iconst (v := 1) hx hb dX11_faultOf_95 (by decide) ?_
              refine lv_goto (tgt := 100) hx hb dX11_faultOf_96 (by decide) ?_
              exact hJ100 K_4 hK_4 (s0 + s1) v2 (1 : Int32) _ _ ls (lv_sub hl [1, 0, 2] rfl) hP hD hS hf
            · have hf := (if_neg c12).symm.trans hf
              refine lv_iload_n hx hb dX11_faultOf_78 rfl (lv_at hl 3 rfl) ?_
              refine lv_bipush (v := 62) hx hb dX11_faultOf_79 (by decide) ?_
              refine lv_icmp_eq (tgt := 95) hx hb dX11_faultOf_81 (by decide) (fun c13 => ?_) (fun c13 => ?_)
              · have hf := (if_pos c13).symm.trans hf
                refine lv_iconst (v := 1) hx hb dX11_faultOf_95 (by decide) ?_
                refine lv_goto (tgt := 100) hx hb dX11_faultOf_96 (by decide) ?_
                exact hJ100 K_4 hK_4 (s0 + s1) v2 (1 : Int32) _ _ ls (lv_sub hl [1, 0, 2] rfl) hP hD hS hf
              · have hf := (if_neg c13).symm.trans hf
                refine lv_iload_n hx hb dX11_faultOf_84 rfl (lv_at hl 3 rfl) ?_
                refine lv_bipush (v := 63) hx hb dX11_faultOf_85 (by decide) ?_
                refine lv_icmp_ne (tgt := 99) hx hb dX11_faultOf_87 (by decide) (fun c14 => ?_) (fun c14 => ?_)
                · have hf := (if_neg c14).symm.trans hf
                  refine lv_iconst (v := 0) hx hb dX11_faultOf_99 (by decide) ?_
                  exact hJ100 K_4 hK_4 (s0 + s1) v2 (0 : Int32) _ _ ls (lv_sub hl [1, 0, 2] rfl) hP hD hS hf
                · have hf := (if_pos c14).symm.trans hf
                  refine lv_iload_n hx hb dX11_faultOf_90 rfl (lv_at hl 0 rfl) ?_
                  refine lv_iconst (v := 4) hx hb dX11_faultOf_91 (by decide) ?_
                  refine lv_icmp_ge (tgt := 99) hx hb dX11_faultOf_92 (by decide) (fun c15 => ?_) (fun c15 => ?_)
                  · have hf := (if_pos c15).symm.trans hf
                    refine lv_iconst (v := 0) hx hb dX11_faultOf_99 (by decide) ?_
                    exact hJ100 K_4 hK_4 (s0 + s1) v2 (0 : Int32) _ _ ls (lv_sub hl [1, 0, 2] rfl) hP hD hS hf
                  · have hf := (if_neg c15).symm.trans hf
                    refine lv_iconst (v := 1) hx hb dX11_faultOf_95 (by decide) ?_
                    refine lv_goto (tgt := 100) hx hb dX11_faultOf_96 (by decide) ?_
                    exact hJ100 K_4 hK_4 (s0 + s1) v2 (1 : Int32) _ _ ls (lv_sub hl [1, 0, 2] rfl) hP hD hS hf
  have hL4 : ∀ (n : Nat), ∀ (v1 : Int32) (v2 : Int32) (H : Heap) (locs : List Loc) (ls : Array Slot), lv_has ls 5 [(0, .ref th0), (1, .int v1), (2, .int v2)] → va_P D vwCl (ceM cI cZ th0 th1 th2 th3 th4 th5 th6 th7 th8 th9 u_th) H → va_D A (ceM cI cZ th0 th1 th2 th3 th4 th5 th6 th7 th8 th9 u_th) → va_S A s.heap H locs → f_X11_faultOf_L4 u_th n v1 v2 = some z → W p l e (headSpec wsX11_faultOf rmX11_faultOf).room s m ([.ref th0] : List Value).toArray below meth c H locs 0 0 Q (F0 m 4 ls []) := by
    intro n
    induction n with
    | zero =>
      intro v1 v2 H locs ls hl hP hD hS hf
      exact absurd (show (none : Option (Int32 × Unit)) = some z from hf) (fun h => by cases h)
    | succ n ih =>
      intro v1 v2 H locs ls hl hP hD hS hf
      rw [f_X11_faultOf_L4] at hf
      refine lv_iload_n hx hb dX11_faultOf_4 rfl (lv_at hl 2 rfl) ?_
      refine lv_aload_n hx hb dX11_faultOf_5 rfl (lv_at hl 0 rfl) ?_
      refine va_get (D := D) (ci := 8) (v := .int (M_signs u_th)) (C := RX11) (T := TX11) (N := 17) hx hb hts hi_X11 hown hK hP 0 rfl rfl 7 (by decide) (hts (.fieldLink RX11 50 "FairWheelModel" "signs" "I") (List.mem_of_getElem? (i := 1) rfl)) (fun _ h9 => h9) rfl dX11_faultOf_6 ?_
      refine lv_icmp_ge (tgt := 115) hx hb dX11_faultOf_9 (by decide) (fun c1 => ?_) (fun c1 => ?_)
      · have hf := (if_pos c1).symm.trans hf
        refine lv_bipush (v := -6) hx hb dX11_faultOf_115 (by decide) ?_
        exact k_iret (v := (-6 : Int32)) (u := ()) hx hb hr hlocks hK hS eQ hf hP hD dX11_faultOf_117
      · have hf := (if_neg c1).symm.trans hf
        refine lv_aload_n hx hb dX11_faultOf_12 rfl (lv_at hl 0 rfl) ?_
        refine va_get (D := D) (ci := 8) (v := .ref th5) (C := RX11) (T := TX11) (N := 17) hx hb hts hi_X11 hown hK hP 0 rfl rfl 8 (by decide) (hts (.fieldLink RX11 26 "FairWheelModel" "pad" "[I") (List.mem_of_getElem? (i := 2) rfl)) (fun _ h9 => h9) rfl dX11_faultOf_13 ?_
        refine lv_iload_n hx hb dX11_faultOf_16 rfl (lv_at hl 2 rfl) ?_
        by_cases c2 : v2 < 0 ∨ 60 ≤ v2.toNatClampNeg
        · have hf := (if_pos c2).symm.trans hf
          cases hf
        have hf := (if_neg c2).symm.trans hf
        refine va_iald hx hb hK hP 5 0 rfl rfl (show vp_in v2 60 from c2) dX11_faultOf_17 ?_
        refine lv_istore_n (lv' := [(3, .int ((M_pad u_th) v2.toNatClampNeg)), (0, .ref th0), (1, .int v1), (2, .int v2)]) hx hb dX11_faultOf_18 rfl hl (by decide) rfl (fun ls hl => ?_)
        refine lv_iload_n hx hb dX11_faultOf_19 rfl (lv_at hl 2 rfl) ?_
        refine lv_iload_n hx hb dX11_faultOf_20 rfl (lv_at hl 0 rfl) ?_
        refine lv_bipush (v := 63) hx hb dX11_faultOf_21 (by decide) ?_
        refine lv_icmp_ne (tgt := 30) hx hb dX11_faultOf_23 (by decide) (fun c3 => ?_) (fun c3 => ?_)
        · have hf := (if_neg c3).symm.trans hf
          refine lv_iconst (v := 0) hx hb dX11_faultOf_30 (by decide) ?_
          exact hJ31 (f_X11_faultOf_L4 u_th n) ih v2 ((M_pad u_th) v2.toNatClampNeg) v1 (0 : Int32) _ _ ls (lv_sub hl [1, 3, 0] rfl) hP hD hS hf
        · have hf := (if_pos c3).symm.trans hf
          refine lv_iconst (v := 1) hx hb dX11_faultOf_26 (by decide) ?_
          refine lv_goto (tgt := 31) hx hb dX11_faultOf_27 (by decide) ?_
          exact hJ31 (f_X11_faultOf_L4 u_th n) ih v2 ((M_pad u_th) v2.toNatClampNeg) v1 (1 : Int32) _ _ ls (lv_sub hl [1, 3, 0] rfl) hP hD hS hf
  rw [f_X11_faultOf] at hf
  refine lv_iconst (v := 0) hx hb dX11_faultOf_0 (by decide) ?_
  refine lv_istore_n (lv' := [(1, .int (0 : Int32)), (0, .ref th0)]) hx hb dX11_faultOf_1 rfl hl (by decide) rfl (fun ls hl => ?_)
  refine lv_iconst (v := 0) hx hb dX11_faultOf_2 (by decide) ?_
  refine lv_istore_n (lv' := [(2, .int (0 : Int32)), (1, .int (0 : Int32)), (0, .ref th0)]) hx hb dX11_faultOf_3 rfl hl (by decide) rfl (fun ls hl => ?_)
  exact hL4 oF (0 : Int32) (0 : Int32) _ _ ls (lv_sub hl [2, 1, 0] rfl) hP hD hS hf
theorem hd_X11_fault : yX11_fault.cls ≠ "java/lang/invoke/MethodHandle" ∧ yX11_fault.cls ≠ "java/lang/invoke/VarHandle" ∧ (parseMethodDescriptor yX11_fault.desc).map (fun d => d.parameters.length) = some 0 := by decide +kernel
set_option maxHeartbeats 4000000 in
set_option maxRecDepth 100000 in
theorem c_X11_fault (l : Launch) (D : va_G) (cI cZ : ClassId) (th0 : Nat) (th1 : Nat) (th2 : Nat) (th3 : Nat) (th4 : Nat) (th5 : Nat) (th6 : Nat) (th7 : Nat) (th8 : Nat) (th9 : Nat) (sz : Nat) (u_th : sM) (z : Int32 × Unit) (hf : f_X11_fault u_th = some z) : Met l yX11_fault wsX11_fault rmX11_fault (va_Pc [.ref th0] (wPr D cI cZ (ceM cI cZ th0 th1 th2 th3 th4 th5 th6 th7 th8 th9 u_th) sz)) (va_Qi (fun (r : Int32) (v : Unit) => (r, v) = z) (fun (v : Unit) t => wPo D cI cZ (va_A (ceM cI cZ th0 th1 th2 th3 th4 th5 th6 th7 th8 th9 u_th) sz) (ceM cI cZ th0 th1 th2 th3 th4 th5 th6 th7 th8 th9 u_th) t) (va_A (ceM cI cZ th0 th1 th2 th3 th4 th5 th6 th7 th8 th9 u_th) sz)) 0 0 (va_A (ceM cI cZ th0 th1 th2 th3 th4 th5 th6 th7 th8 th9 u_th) sz) := by
  refine k_enter (D := D) (cI := cI) (cZ := cZ) (wl := ceM cI cZ th0 th1 th2 th3 th4 th5 th6 th7 th8 th9 u_th) (sz := sz) (av := [.ref th0]) (cc := cX11_fault) (maxL := 1) (ret := (some .int)) (Qc := fun A => va_Qi (fun (r : Int32) (v : Unit) => (r, v) = z) (fun (v : Unit) t => wPo D cI cZ (A) (ceM cI cZ th0 th1 th2 th3 th4 th5 th6 th7 th8 th9 u_th) t) (A)) (by decide) rfl (Nat.le_of_ble_eq_true rfl) ?_
  intro p e s m below meth c ls A Q H locs eQ hx hb hr hml hts hown hlocks hK hP hD hS hA hE hl
  have hown : s.vm.findClass RX11 = some m.cls := hown
  have hl : lv_has ls 1 [(0, .ref th0)] := hl
  rw [f_X11_fault] at hf
  refine lv_aload_n hx hb dX11_fault_0 rfl (lv_at hl 0 rfl) ?_
  obtain ⟨z1, hz_z1, hf⟩ := o_bind hf
  refine k_calli (va_runV (As := []) (rest := []) ⟨hx, hb, hml, hown, hts⟩ (c_X11_faultOf l D cI cZ th0 th1 th2 th3 th4 th5 th6 th7 th8 th9 H.size u_th z1 hz_z1) (cwV 0 hts gX11_fault_X11_faultOf rfl rfl rfl ⟨rfl, hd_X11_faultOf⟩ ⟨Nat.le_of_ble_eq_true rfl, Nat.le_of_ble_eq_true rfl⟩) (k_preV hK hP hD hS hA hE [0, 1, 2, 3, 4, 5, 6, 7, 8, 9] (by decide) rfl (ci := 8) rfl rfl) rfl rfl hl.1 rfl (lv_room (Nat.le_of_ble_eq_true rfl)) dX11_fault_1 ⟨Nat.zero_le _, Nat.zero_le _⟩) hP hD hS hA [0, 1, 2, 3, 4, 5, 6, 7, 8, 9] [some 0, some 1, some 2, some 3, some 4, some 5, some 6, some 7, some 8, some 9] 10 rfl (by decide) (by decide) rfl rfl (fun H locs hP hD hS => ?_)
  have hP : va_P D vwCl (ceM cI cZ th0 th1 th2 th3 th4 th5 th6 th7 th8 th9 u_th) H := hP
  have hD : va_D A (ceM cI cZ th0 th1 th2 th3 th4 th5 th6 th7 th8 th9 u_th) := hD
  exact k_iret (v := z1.1) (u := ()) hx hb hr hlocks hK hS eQ hf hP hD dX11_fault_4
theorem hd_X11_opens : yX11_opens.cls ≠ "java/lang/invoke/MethodHandle" ∧ yX11_opens.cls ≠ "java/lang/invoke/VarHandle" ∧ (parseMethodDescriptor yX11_opens.desc).map (fun d => d.parameters.length) = some 0 := by decide +kernel
set_option maxHeartbeats 4000000 in
set_option maxRecDepth 100000 in
theorem c_X11_opens (l : Launch) (D : va_G) (cI cZ : ClassId) (th0 : Nat) (th1 : Nat) (th2 : Nat) (th3 : Nat) (th4 : Nat) (th5 : Nat) (th6 : Nat) (th7 : Nat) (th8 : Nat) (th9 : Nat) (sz : Nat) (u_th : sM) (z : Int32 × Unit) (hf : f_X11_opens u_th = some z) : Met l yX11_opens wsX11_opens rmX11_opens (va_Pc [.ref th0] (wPr D cI cZ (ceM cI cZ th0 th1 th2 th3 th4 th5 th6 th7 th8 th9 u_th) sz)) (va_Qi (fun (r : Int32) (v : Unit) => (r, v) = z) (fun (v : Unit) t => wPo D cI cZ (va_A (ceM cI cZ th0 th1 th2 th3 th4 th5 th6 th7 th8 th9 u_th) sz) (ceM cI cZ th0 th1 th2 th3 th4 th5 th6 th7 th8 th9 u_th) t) (va_A (ceM cI cZ th0 th1 th2 th3 th4 th5 th6 th7 th8 th9 u_th) sz)) 0 0 (va_A (ceM cI cZ th0 th1 th2 th3 th4 th5 th6 th7 th8 th9 u_th) sz) := by
  refine k_enter (D := D) (cI := cI) (cZ := cZ) (wl := ceM cI cZ th0 th1 th2 th3 th4 th5 th6 th7 th8 th9 u_th) (sz := sz) (av := [.ref th0]) (cc := cX11_opens) (maxL := 3) (ret := (some .int)) (Qc := fun A => va_Qi (fun (r : Int32) (v : Unit) => (r, v) = z) (fun (v : Unit) t => wPo D cI cZ (A) (ceM cI cZ th0 th1 th2 th3 th4 th5 th6 th7 th8 th9 u_th) t) (A)) (by decide) rfl (Nat.le_of_ble_eq_true rfl) ?_
  intro p e s m below meth c ls A Q H locs eQ hx hb hr hml hts hown hlocks hK hP hD hS hA hE hl
  have hown : s.vm.findClass RX11 = some m.cls := hown
  have hl : lv_has ls 3 [(0, .ref th0)] := hl
  have hi_X11 : ∀ w ∈ wsX110, w ∈ wsX11_opens := fun w h => List.mem_cons_of_mem _ (List.mem_append_right _ h)
  have hL4 : ∀ (n : Nat), ∀ (v1 : Int32) (v2 : Int32) (H : Heap) (locs : List Loc) (ls : Array Slot), lv_has ls 3 [(0, .ref th0), (1, .int v1), (2, .int v2)] → va_P D vwCl (ceM cI cZ th0 th1 th2 th3 th4 th5 th6 th7 th8 th9 u_th) H → va_D A (ceM cI cZ th0 th1 th2 th3 th4 th5 th6 th7 th8 th9 u_th) → va_S A s.heap H locs → f_X11_opens_L4 u_th n v1 v2 = some z → W p l e (headSpec wsX11_opens rmX11_opens).room s m ([.ref th0] : List Value).toArray below meth c H locs 0 0 Q (F0 m 4 ls []) := by
    intro n
    induction n with
    | zero =>
      intro v1 v2 H locs ls hl hP hD hS hf
      exact absurd (show (none : Option (Int32 × Unit)) = some z from hf) (fun h => by cases h)
    | succ n ih =>
      intro v1 v2 H locs ls hl hP hD hS hf
      rw [f_X11_opens_L4] at hf
      refine lv_iload_n hx hb dX11_opens_4 rfl (lv_at hl 2 rfl) ?_
      refine lv_aload_n hx hb dX11_opens_5 rfl (lv_at hl 0 rfl) ?_
      refine va_get (D := D) (ci := 8) (v := .int (M_signs u_th)) (C := RX11) (T := TX11) (N := 17) hx hb hts hi_X11 hown hK hP 0 rfl rfl 7 (by decide) (hts (.fieldLink RX11 50 "FairWheelModel" "signs" "I") (List.mem_of_getElem? (i := 1) rfl)) (fun _ h9 => h9) rfl dX11_opens_6 ?_
      refine lv_icmp_ge (tgt := 37) hx hb dX11_opens_9 (by decide) (fun c1 => ?_) (fun c1 => ?_)
      · have hf := (if_pos c1).symm.trans hf
        refine lv_iload_n hx hb dX11_opens_37 rfl (lv_at hl 1 rfl) ?_
        exact k_iret (v := v1) (u := ()) hx hb hr hlocks hK hS eQ hf hP hD dX11_opens_38
      · have hf := (if_neg c1).symm.trans hf
        refine lv_iload_n hx hb dX11_opens_12 rfl (lv_at hl 1 rfl) ?_
        refine lv_aload_n hx hb dX11_opens_13 rfl (lv_at hl 0 rfl) ?_
        refine va_get (D := D) (ci := 8) (v := .ref th5) (C := RX11) (T := TX11) (N := 17) hx hb hts hi_X11 hown hK hP 0 rfl rfl 8 (by decide) (hts (.fieldLink RX11 26 "FairWheelModel" "pad" "[I") (List.mem_of_getElem? (i := 2) rfl)) (fun _ h9 => h9) rfl dX11_opens_14 ?_
        refine lv_iload_n hx hb dX11_opens_17 rfl (lv_at hl 2 rfl) ?_
        by_cases c2 : v2 < 0 ∨ 60 ≤ v2.toNatClampNeg
        · have hf := (if_pos c2).symm.trans hf
          cases hf
        have hf := (if_neg c2).symm.trans hf
        refine va_iald hx hb hK hP 5 0 rfl rfl (show vp_in v2 60 from c2) dX11_opens_18 ?_
        refine lv_bipush (v := 63) hx hb dX11_opens_19 (by decide) ?_
        refine lv_icmp_ne (tgt := 28) hx hb dX11_opens_21 (by decide) (fun c3 => ?_) (fun c3 => ?_)
        · have hf := (if_neg c3).symm.trans hf
          refine lv_iconst (v := 0) hx hb dX11_opens_28 (by decide) ?_
          refine lv_iadd hx hb dX11_opens_29 ?_
          refine lv_istore_n (lv' := [(1, .int (v1 + (0 : Int32))), (0, .ref th0), (2, .int v2)]) hx hb dX11_opens_30 rfl hl (by decide) rfl (fun ls hl => ?_)
          refine lv_iinc (v := (v2 + (1 : Int32))) (lv' := [(2, .int (v2 + (1 : Int32))), (1, .int (v1 + (0 : Int32))), (0, .ref th0)]) hx hb dX11_opens_31 hl (k := 2) rfl rfl (by decide) rfl (fun ls hl => ?_)
          refine lv_goto (tgt := 4) hx hb dX11_opens_34 (by decide) ?_
          exact ih (v1 + (0 : Int32)) (v2 + (1 : Int32)) _ _ ls (lv_sub hl [2, 1, 0] rfl) hP hD hS hf
        · have hf := (if_pos c3).symm.trans hf
          refine lv_iconst (v := 1) hx hb dX11_opens_24 (by decide) ?_
          refine lv_goto (tgt := 29) hx hb dX11_opens_25 (by decide) ?_
          refine lv_iadd hx hb dX11_opens_29 ?_
          refine lv_istore_n (lv' := [(1, .int (v1 + (1 : Int32))), (0, .ref th0), (2, .int v2)]) hx hb dX11_opens_30 rfl hl (by decide) rfl (fun ls hl => ?_)
          refine lv_iinc (v := (v2 + (1 : Int32))) (lv' := [(2, .int (v2 + (1 : Int32))), (1, .int (v1 + (1 : Int32))), (0, .ref th0)]) hx hb dX11_opens_31 hl (k := 2) rfl rfl (by decide) rfl (fun ls hl => ?_)
          refine lv_goto (tgt := 4) hx hb dX11_opens_34 (by decide) ?_
          exact ih (v1 + (1 : Int32)) (v2 + (1 : Int32)) _ _ ls (lv_sub hl [2, 1, 0] rfl) hP hD hS hf
  rw [f_X11_opens] at hf
  refine lv_iconst (v := 0) hx hb dX11_opens_0 (by decide) ?_
  refine lv_istore_n (lv' := [(1, .int (0 : Int32)), (0, .ref th0)]) hx hb dX11_opens_1 rfl hl (by decide) rfl (fun ls hl => ?_)
  refine lv_iconst (v := 0) hx hb dX11_opens_2 (by decide) ?_
  refine lv_istore_n (lv' := [(2, .int (0 : Int32)), (1, .int (0 : Int32)), (0, .ref th0)]) hx hb dX11_opens_3 rfl hl (by decide) rfl (fun ls hl => ?_)
  exact hL4 oF (0 : Int32) (0 : Int32) _ _ ls (lv_sub hl [2, 1, 0] rfl) hP hD hS hf
theorem hd_X11_asNow : yX11_asNow.cls ≠ "java/lang/invoke/MethodHandle" ∧ yX11_asNow.cls ≠ "java/lang/invoke/VarHandle" ∧ (parseMethodDescriptor yX11_asNow.desc).map (fun d => d.parameters.length) = some 0 := by decide +kernel
set_option maxHeartbeats 4000000 in
set_option maxRecDepth 100000 in
theorem c_X11_asNow (l : Launch) (D : va_G) (cI cZ : ClassId) (th0 : Nat) (th1 : Nat) (th2 : Nat) (th3 : Nat) (th4 : Nat) (th5 : Nat) (th6 : Nat) (th7 : Nat) (th8 : Nat) (th9 : Nat) (sz : Nat) (u_th : sM) (z : sM) (hf : f_X11_asNow u_th = some z) : Met l yX11_asNow wsX11_asNow rmX11_asNow (va_Pc [.ref th0] (wPr D cI cZ (ceM cI cZ th0 th1 th2 th3 th4 th5 th6 th7 th8 th9 u_th) sz)) (va_Qv (fun (v : sM) => v = z) (fun (v : sM) t => wPo D cI cZ (va_A (ceM cI cZ th0 th1 th2 th3 th4 th5 th6 th7 th8 th9 u_th) sz) (ceM cI cZ th0 th1 th2 th3 th4 th5 th6 th7 th8 th9 v) t) (va_A (ceM cI cZ th0 th1 th2 th3 th4 th5 th6 th7 th8 th9 u_th) sz)) 0 0 (va_A (ceM cI cZ th0 th1 th2 th3 th4 th5 th6 th7 th8 th9 u_th) sz) := by
  refine k_enter (D := D) (cI := cI) (cZ := cZ) (wl := ceM cI cZ th0 th1 th2 th3 th4 th5 th6 th7 th8 th9 u_th) (sz := sz) (av := [.ref th0]) (cc := cX11_asNow) (maxL := 2) (ret := none) (Qc := fun A => va_Qv (fun (v : sM) => v = z) (fun (v : sM) t => wPo D cI cZ (A) (ceM cI cZ th0 th1 th2 th3 th4 th5 th6 th7 th8 th9 v) t) (A)) (by decide) rfl (Nat.le_of_ble_eq_true rfl) ?_
  intro p e s m below meth c ls A Q H locs eQ hx hb hr hml hts hown hlocks hK hP hD hS hA hE hl
  have hown : s.vm.findClass RX11 = some m.cls := hown
  have hl : lv_has ls 2 [(0, .ref th0)] := hl
  have hi_X11 : ∀ w ∈ wsX110, w ∈ wsX11_asNow := fun w h => List.mem_cons_of_mem _ (List.mem_append_right _ h)
  have hL20 : ∀ (n : Nat), ∀ (v1 : Int32) (u_th : sM) (H : Heap) (locs : List Loc) (ls : Array Slot), lv_has ls 2 [(0, .ref th0), (1, .int v1)] → va_P D vwCl (ceM cI cZ th0 th1 th2 th3 th4 th5 th6 th7 th8 th9 u_th) H → va_D A (ceM cI cZ th0 th1 th2 th3 th4 th5 th6 th7 th8 th9 u_th) → va_S A s.heap H locs → f_X11_asNow_L20 n v1 u_th = some z → W p l e (headSpec wsX11_asNow rmX11_asNow).room s m ([.ref th0] : List Value).toArray below meth c H locs 0 0 Q (F0 m 20 ls []) := by
    intro n
    induction n with
    | zero =>
      intro v1 u_th H locs ls hl hP hD hS hf
      exact absurd (show (none : Option (sM)) = some z from hf) (fun h => by cases h)
    | succ n ih =>
      intro v1 u_th H locs ls hl hP hD hS hf
      rw [f_X11_asNow_L20] at hf
      refine lv_iload_n hx hb dX11_asNow_20 rfl (lv_at hl 1 rfl) ?_
      refine lv_bipush (v := 8) hx hb dX11_asNow_21 (by decide) ?_
      refine lv_icmp_ge (tgt := 56) hx hb dX11_asNow_23 (by decide) (fun c1 => ?_) (fun c1 => ?_)
      · have hf := (if_pos c1).symm.trans hf
        exact k_vret (u := u_th) hx hb hr hlocks hK hS eQ hf hP hD dX11_asNow_56
      · have hf := (if_neg c1).symm.trans hf
        refine lv_aload_n hx hb dX11_asNow_26 rfl (lv_at hl 0 rfl) ?_
        refine va_get (D := D) (ci := 8) (v := .ref th6) (C := RX11) (T := TX11) (N := 17) hx hb hts hi_X11 hown hK hP 0 rfl rfl 12 (by decide) (hts (.fieldLink RX11 29 "FairWheelModel" "now" "[I") (List.mem_of_getElem? (i := 5) rfl)) (fun _ h9 => h9) rfl dX11_asNow_27 ?_
        refine lv_iload_n hx hb dX11_asNow_30 rfl (lv_at hl 1 rfl) ?_
        refine lv_aload_n hx hb dX11_asNow_31 rfl (lv_at hl 0 rfl) ?_
        refine va_get (D := D) (ci := 8) (v := .ref th2) (C := RX11) (T := TX11) (N := 17) hx hb hts hi_X11 hown hK hP 0 rfl rfl 1 (by decide) (hts (.fieldLink RX11 13 "FairWheelModel" "sits" "[I") (List.mem_of_getElem? (i := 6) rfl)) (fun _ h9 => h9) rfl dX11_asNow_32 ?_
        refine lv_iload_n hx hb dX11_asNow_35 rfl (lv_at hl 1 rfl) ?_
        by_cases c2 : v1 < 0 ∨ 8 ≤ v1.toNatClampNeg
        · have hf := (if_pos c2).symm.trans hf
          cases hf
        have hf := (if_neg c2).symm.trans hf
        refine va_iald hx hb hK hP 2 0 rfl rfl (show vp_in v1 8 from c2) dX11_asNow_36 ?_
        by_cases c3 : v1 < 0 ∨ 8 ≤ v1.toNatClampNeg
        · have hf := (if_pos c3).symm.trans hf
          cases hf
        have hf := (if_neg c3).symm.trans hf
        refine va_iast hx hb hK hP hD hS 6 0 rfl rfl (show vp_in v1 8 from c3) dX11_asNow_37 (fun H locs hP hD hS => ?_)
        have hP : va_P D vwCl (ceM cI cZ th0 th1 th2 th3 th4 th5 th6 th7 th8 th9 ((M_weight u_th), (M_sits u_th), (M_stones u_th), (M_at u_th), (M_drag u_th), (M_sights u_th), (M_sight u_th), (M_signs u_th), (M_pad u_th), (M_foot u_th), (M_turned u_th), (M_bothWays u_th), (upd (M_now u_th) v1.toNatClampNeg ((M_sits u_th) v1.toNatClampNeg)), (M_heap u_th), (M_reason u_th), (M_image u_th), (M_isKept u_th))) H := hP
        have hD : va_D A (ceM cI cZ th0 th1 th2 th3 th4 th5 th6 th7 th8 th9 ((M_weight u_th), (M_sits u_th), (M_stones u_th), (M_at u_th), (M_drag u_th), (M_sights u_th), (M_sight u_th), (M_signs u_th), (M_pad u_th), (M_foot u_th), (M_turned u_th), (M_bothWays u_th), (upd (M_now u_th) v1.toNatClampNeg ((M_sits u_th) v1.toNatClampNeg)), (M_heap u_th), (M_reason u_th), (M_image u_th), (M_isKept u_th))) := hD
        refine lv_aload_n hx hb dX11_asNow_38 rfl (lv_at hl 0 rfl) ?_
        refine va_get (D := D) (ci := 8) (v := .ref th7) (C := RX11) (T := TX11) (N := 17) hx hb hts hi_X11 hown hK hP 0 rfl rfl 13 (by decide) (hts (.fieldLink RX11 32 "FairWheelModel" "heap" "[I") (List.mem_of_getElem? (i := 7) rfl)) (fun _ h9 => h9) rfl dX11_asNow_39 ?_
        refine lv_iload_n hx hb dX11_asNow_42 rfl (lv_at hl 1 rfl) ?_
        refine lv_aload_n hx hb dX11_asNow_43 rfl (lv_at hl 0 rfl) ?_
        refine va_get (D := D) (ci := 8) (v := .ref th3) (C := RX11) (T := TX11) (N := 17) hx hb hts hi_X11 hown hK hP 0 rfl rfl 2 (by decide) (hts (.fieldLink RX11 16 "FairWheelModel" "stones" "[I") (List.mem_of_getElem? (i := 8) rfl)) (fun _ h9 => h9) rfl dX11_asNow_44 ?_
        refine lv_iload_n hx hb dX11_asNow_47 rfl (lv_at hl 1 rfl) ?_
        by_cases c4 : v1 < 0 ∨ 8 ≤ v1.toNatClampNeg
        · have hf := (if_pos c4).symm.trans hf
          cases hf
        have hf := (if_neg c4).symm.trans hf
        refine va_iald hx hb hK hP 3 0 rfl rfl (show vp_in v1 8 from c4) dX11_asNow_48 ?_
        by_cases c5 : v1 < 0 ∨ 8 ≤ v1.toNatClampNeg
        · have hf := (if_pos c5).symm.trans hf
          cases hf
        have hf := (if_neg c5).symm.trans hf
        refine va_iast hx hb hK hP hD hS 7 0 rfl rfl (show vp_in v1 8 from c5) dX11_asNow_49 (fun H locs hP hD hS => ?_)
        have hP : va_P D vwCl (ceM cI cZ th0 th1 th2 th3 th4 th5 th6 th7 th8 th9 ((M_weight u_th), (M_sits u_th), (M_stones u_th), (M_at u_th), (M_drag u_th), (M_sights u_th), (M_sight u_th), (M_signs u_th), (M_pad u_th), (M_foot u_th), (M_turned u_th), (M_bothWays u_th), (upd (M_now u_th) v1.toNatClampNeg ((M_sits u_th) v1.toNatClampNeg)), (upd (M_heap u_th) v1.toNatClampNeg ((M_stones u_th) v1.toNatClampNeg)), (M_reason u_th), (M_image u_th), (M_isKept u_th))) H := hP
        have hD : va_D A (ceM cI cZ th0 th1 th2 th3 th4 th5 th6 th7 th8 th9 ((M_weight u_th), (M_sits u_th), (M_stones u_th), (M_at u_th), (M_drag u_th), (M_sights u_th), (M_sight u_th), (M_signs u_th), (M_pad u_th), (M_foot u_th), (M_turned u_th), (M_bothWays u_th), (upd (M_now u_th) v1.toNatClampNeg ((M_sits u_th) v1.toNatClampNeg)), (upd (M_heap u_th) v1.toNatClampNeg ((M_stones u_th) v1.toNatClampNeg)), (M_reason u_th), (M_image u_th), (M_isKept u_th))) := hD
        refine lv_iinc (v := (v1 + (1 : Int32))) (lv' := [(1, .int (v1 + (1 : Int32))), (0, .ref th0)]) hx hb dX11_asNow_50 hl (k := 1) rfl rfl (by decide) rfl (fun ls hl => ?_)
        refine lv_goto (tgt := 20) hx hb dX11_asNow_53 (by decide) ?_
        exact ih (v1 + (1 : Int32)) ((M_weight u_th), (M_sits u_th), (M_stones u_th), (M_at u_th), (M_drag u_th), (M_sights u_th), (M_sight u_th), (M_signs u_th), (M_pad u_th), (M_foot u_th), (M_turned u_th), (M_bothWays u_th), (upd (M_now u_th) v1.toNatClampNeg ((M_sits u_th) v1.toNatClampNeg)), (upd (M_heap u_th) v1.toNatClampNeg ((M_stones u_th) v1.toNatClampNeg)), (M_reason u_th), (M_image u_th), (M_isKept u_th)) _ _ ls (lv_sub hl [1, 0] rfl) hP hD hS hf
  rw [f_X11_asNow] at hf
  refine lv_aload_n hx hb dX11_asNow_0 rfl (lv_at hl 0 rfl) ?_
  refine lv_aload_n hx hb dX11_asNow_1 rfl (lv_at hl 0 rfl) ?_
  refine va_get (D := D) (ci := 8) (v := .int (M_at u_th)) (C := RX11) (T := TX11) (N := 17) hx hb hts hi_X11 hown hK hP 0 rfl rfl 3 (by decide) (hts (.fieldLink RX11 57 "FairWheelModel" "at" "I") (List.mem_of_getElem? (i := 1) rfl)) (fun _ h9 => h9) rfl dX11_asNow_2 ?_
  refine va_put (D := D) (ci := 8) (v := .int (M_at u_th)) (ty := .int) (C := RX11) (T := TX11) (N := 17) hx hb hts hi_X11 tyX11 tyX11_ok nmX11 hown hK hP hD hS 0 rfl rfl 9 (by decide) (hts (.fieldLink RX11 60 "FairWheelModel" "foot" "I") (List.mem_of_getElem? (i := 2) rfl)) (fun _ h9 => h9) rfl (by decide +kernel) rfl rfl (Nat.le_of_ble_eq_true rfl) dX11_asNow_5 (fun H locs hP hD hS => ?_)
  have hP : va_P D vwCl (ceM cI cZ th0 th1 th2 th3 th4 th5 th6 th7 th8 th9 ((M_weight u_th), (M_sits u_th), (M_stones u_th), (M_at u_th), (M_drag u_th), (M_sights u_th), (M_sight u_th), (M_signs u_th), (M_pad u_th), (M_at u_th), (M_turned u_th), (M_bothWays u_th), (M_now u_th), (M_heap u_th), (M_reason u_th), (M_image u_th), (M_isKept u_th))) H := hP
  have hD : va_D A (ceM cI cZ th0 th1 th2 th3 th4 th5 th6 th7 th8 th9 ((M_weight u_th), (M_sits u_th), (M_stones u_th), (M_at u_th), (M_drag u_th), (M_sights u_th), (M_sight u_th), (M_signs u_th), (M_pad u_th), (M_at u_th), (M_turned u_th), (M_bothWays u_th), (M_now u_th), (M_heap u_th), (M_reason u_th), (M_image u_th), (M_isKept u_th))) := hD
  refine lv_aload_n hx hb dX11_asNow_8 rfl (lv_at hl 0 rfl) ?_
  refine lv_iconst (v := 0) hx hb dX11_asNow_9 (by decide) ?_
  refine va_put (D := D) (ci := 8) (v := .int (0 : Int32)) (ty := .int) (C := RX11) (T := TX11) (N := 17) hx hb hts hi_X11 tyX11 tyX11_ok nmX11 hown hK hP hD hS 0 rfl rfl 10 (by decide) (hts (.fieldLink RX11 63 "FairWheelModel" "turned" "I") (List.mem_of_getElem? (i := 3) rfl)) (fun _ h9 => h9) rfl (by decide +kernel) rfl rfl (Nat.le_of_ble_eq_true rfl) dX11_asNow_10 (fun H locs hP hD hS => ?_)
  have hP : va_P D vwCl (ceM cI cZ th0 th1 th2 th3 th4 th5 th6 th7 th8 th9 ((M_weight u_th), (M_sits u_th), (M_stones u_th), (M_at u_th), (M_drag u_th), (M_sights u_th), (M_sight u_th), (M_signs u_th), (M_pad u_th), (M_at u_th), (0 : Int32), (M_bothWays u_th), (M_now u_th), (M_heap u_th), (M_reason u_th), (M_image u_th), (M_isKept u_th))) H := hP
  have hD : va_D A (ceM cI cZ th0 th1 th2 th3 th4 th5 th6 th7 th8 th9 ((M_weight u_th), (M_sits u_th), (M_stones u_th), (M_at u_th), (M_drag u_th), (M_sights u_th), (M_sight u_th), (M_signs u_th), (M_pad u_th), (M_at u_th), (0 : Int32), (M_bothWays u_th), (M_now u_th), (M_heap u_th), (M_reason u_th), (M_image u_th), (M_isKept u_th))) := hD
  refine lv_aload_n hx hb dX11_asNow_13 rfl (lv_at hl 0 rfl) ?_
  refine lv_iconst (v := 0) hx hb dX11_asNow_14 (by decide) ?_
  refine va_put (D := D) (ci := 8) (v := .int (0 : Int32)) (ty := .int) (C := RX11) (T := TX11) (N := 17) hx hb hts hi_X11 tyX11 tyX11_ok nmX11 hown hK hP hD hS 0 rfl rfl 11 (by decide) (hts (.fieldLink RX11 66 "FairWheelModel" "bothWays" "I") (List.mem_of_getElem? (i := 4) rfl)) (fun _ h9 => h9) rfl (by decide +kernel) rfl rfl (Nat.le_of_ble_eq_true rfl) dX11_asNow_15 (fun H locs hP hD hS => ?_)
  have hP : va_P D vwCl (ceM cI cZ th0 th1 th2 th3 th4 th5 th6 th7 th8 th9 ((M_weight u_th), (M_sits u_th), (M_stones u_th), (M_at u_th), (M_drag u_th), (M_sights u_th), (M_sight u_th), (M_signs u_th), (M_pad u_th), (M_at u_th), (0 : Int32), (0 : Int32), (M_now u_th), (M_heap u_th), (M_reason u_th), (M_image u_th), (M_isKept u_th))) H := hP
  have hD : va_D A (ceM cI cZ th0 th1 th2 th3 th4 th5 th6 th7 th8 th9 ((M_weight u_th), (M_sits u_th), (M_stones u_th), (M_at u_th), (M_drag u_th), (M_sights u_th), (M_sight u_th), (M_signs u_th), (M_pad u_th), (M_at u_th), (0 : Int32), (0 : Int32), (M_now u_th), (M_heap u_th), (M_reason u_th), (M_image u_th), (M_isKept u_th))) := hD
  refine lv_iconst (v := 0) hx hb dX11_asNow_18 (by decide) ?_
  refine lv_istore_n (lv' := [(1, .int (0 : Int32)), (0, .ref th0)]) hx hb dX11_asNow_19 rfl hl (by decide) rfl (fun ls hl => ?_)
  exact hL20 oF (0 : Int32) ((M_weight u_th), (M_sits u_th), (M_stones u_th), (M_at u_th), (M_drag u_th), (M_sights u_th), (M_sight u_th), (M_signs u_th), (M_pad u_th), (M_at u_th), (0 : Int32), (0 : Int32), (M_now u_th), (M_heap u_th), (M_reason u_th), (M_image u_th), (M_isKept u_th)) _ _ ls (lv_sub hl [1, 0] rfl) hP hD hS hf
theorem hd_X11_pullAt : yX11_pullAt.cls ≠ "java/lang/invoke/MethodHandle" ∧ yX11_pullAt.cls ≠ "java/lang/invoke/VarHandle" ∧ (parseMethodDescriptor yX11_pullAt.desc).map (fun d => d.parameters.length) = some 1 := by decide +kernel
set_option maxHeartbeats 4000000 in
set_option maxRecDepth 100000 in
theorem c_X11_pullAt (l : Launch) (D : va_G) (cI cZ : ClassId) (th0 : Nat) (th1 : Nat) (th2 : Nat) (th3 : Nat) (th4 : Nat) (th5 : Nat) (th6 : Nat) (th7 : Nat) (th8 : Nat) (th9 : Nat) (sz : Nat) (u_th : sM) (p1 : Int32) (z : Int32 × Unit) (hf : f_X11_pullAt u_th p1 = some z) : Met l yX11_pullAt wsX11_pullAt rmX11_pullAt (va_Pc [.ref th0, .int p1] (wPr D cI cZ (ceM cI cZ th0 th1 th2 th3 th4 th5 th6 th7 th8 th9 u_th) sz)) (va_Qi (fun (r : Int32) (v : Unit) => (r, v) = z) (fun (v : Unit) t => wPo D cI cZ (va_A (ceM cI cZ th0 th1 th2 th3 th4 th5 th6 th7 th8 th9 u_th) sz) (ceM cI cZ th0 th1 th2 th3 th4 th5 th6 th7 th8 th9 u_th) t) (va_A (ceM cI cZ th0 th1 th2 th3 th4 th5 th6 th7 th8 th9 u_th) sz)) 0 0 (va_A (ceM cI cZ th0 th1 th2 th3 th4 th5 th6 th7 th8 th9 u_th) sz) := by
  refine k_enter (D := D) (cI := cI) (cZ := cZ) (wl := ceM cI cZ th0 th1 th2 th3 th4 th5 th6 th7 th8 th9 u_th) (sz := sz) (av := [.ref th0, .int p1]) (cc := cX11_pullAt) (maxL := 5) (ret := (some .int)) (Qc := fun A => va_Qi (fun (r : Int32) (v : Unit) => (r, v) = z) (fun (v : Unit) t => wPo D cI cZ (A) (ceM cI cZ th0 th1 th2 th3 th4 th5 th6 th7 th8 th9 u_th) t) (A)) (by decide) rfl (Nat.le_of_ble_eq_true rfl) ?_
  intro p e s m below meth c ls A Q H locs eQ hx hb hr hml hts hown hlocks hK hP hD hS hA hE hl
  have hown : s.vm.findClass RX11 = some m.cls := hown
  have hl : lv_has ls 5 [(0, .ref th0), (1, .int p1)] := hl
  have hi_X11 : ∀ w ∈ wsX110, w ∈ wsX11_pullAt := fun w h => List.mem_cons_of_mem _ (List.mem_append_right _ h)
  have hJ40 : ∀ (K_4 : Int32 → Int32 → Int32 → Option (Int32 × Unit)), (∀ (v1 : Int32) (v2 : Int32) (v3 : Int32) (H : Heap) (locs : List Loc) (ls : Array Slot), lv_has ls 5 [(0, .ref th0), (1, .int v1), (2, .int v2), (3, .int v3)] → va_P D vwCl (ceM cI cZ th0 th1 th2 th3 th4 th5 th6 th7 th8 th9 u_th) H → va_D A (ceM cI cZ th0 th1 th2 th3 th4 th5 th6 th7 th8 th9 u_th) → va_S A s.heap H locs → K_4 v1 v2 v3 = some z → W p l e (headSpec wsX11_pullAt rmX11_pullAt).room s m ([.ref th0, .int p1] : List Value).toArray below meth c H locs 0 0 Q (F0 m 4 ls [])) → ∀ (v1 : Int32) (v2 : Int32) (v3 : Int32) (s0 : Int32) (s1 : Int32) (H : Heap) (locs : List Loc) (ls : Array Slot), lv_has ls 5 [(0, .ref th0), (1, .int v1), (2, .int v2), (3, .int v3)] → va_P D vwCl (ceM cI cZ th0 th1 th2 th3 th4 th5 th6 th7 th8 th9 u_th) H → va_D A (ceM cI cZ th0 th1 th2 th3 th4 th5 th6 th7 th8 th9 u_th) → va_S A s.heap H locs → f_X11_pullAt_J40 u_th K_4 v1 v2 v3 s0 s1 = some z → W p l e (headSpec wsX11_pullAt rmX11_pullAt).room s m ([.ref th0, .int p1] : List Value).toArray below meth c H locs 0 0 Q (F0 m 40 ls [.int s1, .int s0]) := by
    intro K_4 hK_4 v1 v2 v3 s0 s1 H locs ls hl hP hD hS hf
    rw [f_X11_pullAt_J40] at hf
    refine lv_iadd hx hb dX11_pullAt_40 ?_
    refine lv_istore (lv' := [(4, .int (s0 + s1)), (0, .ref th0), (1, .int v1), (2, .int v2), (3, .int v3)]) hx hb dX11_pullAt_41 hl (by decide) rfl (fun ls hl => ?_)
    refine lv_iload_n hx hb dX11_pullAt_43 rfl (lv_at hl 3 rfl) ?_
    refine lv_iload hx hb dX11_pullAt_44 (lv_at hl 0 rfl) ?_
    refine lv_iload_n hx hb dX11_pullAt_46 rfl (lv_at hl 4 rfl) ?_
    refine lv_iload_n hx hb dX11_pullAt_47 rfl (lv_at hl 2 rfl) ?_
    refine lv_isub hx hb dX11_pullAt_48 ?_
    refine lv_bipush (v := 8) hx hb dX11_pullAt_49 (by decide) ?_
    refine lv_iadd hx hb dX11_pullAt_51 ?_
    refine lv_bipush (v := 8) hx hb dX11_pullAt_52 (by decide) ?_
    refine lv_irem hx hb dX11_pullAt_54 (by decide) ?_
    obtain ⟨z7, hz_z7, hf⟩ := o_bind hf
    refine k_calli (va_runS (As := [.int (((v3 - v1) + (8 : Int32)) - ((v3 - v1) + (8 : Int32)) / (8 : Int32) * (8 : Int32))]) (rest := [.int (s0 + s1), .int v2]) ⟨hx, hb, hml, hown, hts⟩ (c_X11_arm l D cI cZ  H.size (((v3 - v1) + (8 : Int32)) - ((v3 - v1) + (8 : Int32)) / (8 : Int32) * (8 : Int32)) z7 hz_z7) (va_cwS 1 hts gX11_pullAt_X11_arm rfl rfl rfl hd_X11_arm ⟨Nat.le_of_ble_eq_true rfl, Nat.le_of_ble_eq_true rfl⟩) (k_preS hK hP hD hS hA hE [] (by decide) rfl) rfl rfl hl.1 rfl (lv_room (Nat.le_of_ble_eq_true rfl)) dX11_pullAt_55 ⟨Nat.zero_le _, Nat.zero_le _⟩) hP hD hS hA [] [none, none, none, none, none, none, none, none, none, none] 0 rfl (by decide) (by decide) rfl rfl (fun H locs hP hD hS => ?_)
    have hP : va_P D vwCl (ceM cI cZ th0 th1 th2 th3 th4 th5 th6 th7 th8 th9 u_th) H := hP
    have hD : va_D A (ceM cI cZ th0 th1 th2 th3 th4 th5 th6 th7 th8 th9 u_th) := hD
    refine lv_imul hx hb dX11_pullAt_58 ?_
    refine lv_iadd hx hb dX11_pullAt_59 ?_
    refine lv_istore_n (lv' := [(2, .int (v2 + ((s0 + s1) * z7.1))), (4, .int (s0 + s1)), (0, .ref th0), (1, .int v1), (3, .int v3)]) hx hb dX11_pullAt_60 rfl hl (by decide) rfl (fun ls hl => ?_)
    refine lv_iinc (v := (v3 + (1 : Int32))) (lv' := [(3, .int (v3 + (1 : Int32))), (2, .int (v2 + ((s0 + s1) * z7.1))), (4, .int (s0 + s1)), (0, .ref th0), (1, .int v1)]) hx hb dX11_pullAt_61 hl (k := 4) rfl rfl (by decide) rfl (fun ls hl => ?_)
    refine lv_goto (tgt := 4) hx hb dX11_pullAt_64 (by decide) ?_
    exact hK_4 v1 (v2 + ((s0 + s1) * z7.1)) (v3 + (1 : Int32)) _ _ ls (lv_sub hl [3, 4, 1, 0] rfl) hP hD hS hf
  have hL4 : ∀ (n : Nat), ∀ (v1 : Int32) (v2 : Int32) (v3 : Int32) (H : Heap) (locs : List Loc) (ls : Array Slot), lv_has ls 5 [(0, .ref th0), (1, .int v1), (2, .int v2), (3, .int v3)] → va_P D vwCl (ceM cI cZ th0 th1 th2 th3 th4 th5 th6 th7 th8 th9 u_th) H → va_D A (ceM cI cZ th0 th1 th2 th3 th4 th5 th6 th7 th8 th9 u_th) → va_S A s.heap H locs → f_X11_pullAt_L4 u_th n v1 v2 v3 = some z → W p l e (headSpec wsX11_pullAt rmX11_pullAt).room s m ([.ref th0, .int p1] : List Value).toArray below meth c H locs 0 0 Q (F0 m 4 ls []) := by
    intro n
    induction n with
    | zero =>
      intro v1 v2 v3 H locs ls hl hP hD hS hf
      exact absurd (show (none : Option (Int32 × Unit)) = some z from hf) (fun h => by cases h)
    | succ n ih =>
      intro v1 v2 v3 H locs ls hl hP hD hS hf
      rw [f_X11_pullAt_L4] at hf
      refine lv_iload_n hx hb dX11_pullAt_4 rfl (lv_at hl 3 rfl) ?_
      refine lv_bipush (v := 8) hx hb dX11_pullAt_5 (by decide) ?_
      refine lv_icmp_ge (tgt := 67) hx hb dX11_pullAt_7 (by decide) (fun c1 => ?_) (fun c1 => ?_)
      · have hf := (if_pos c1).symm.trans hf
        refine lv_iload_n hx hb dX11_pullAt_67 rfl (lv_at hl 2 rfl) ?_
        exact k_iret (v := v2) (u := ()) hx hb hr hlocks hK hS eQ hf hP hD dX11_pullAt_68
      · have hf := (if_neg c1).symm.trans hf
        refine lv_aload_n hx hb dX11_pullAt_10 rfl (lv_at hl 0 rfl) ?_
        refine va_get (D := D) (ci := 8) (v := .ref th7) (C := RX11) (T := TX11) (N := 17) hx hb hts hi_X11 hown hK hP 0 rfl rfl 13 (by decide) (hts (.fieldLink RX11 32 "FairWheelModel" "heap" "[I") (List.mem_of_getElem? (i := 1) rfl)) (fun _ h9 => h9) rfl dX11_pullAt_11 ?_
        refine lv_iload_n hx hb dX11_pullAt_14 rfl (lv_at hl 3 rfl) ?_
        by_cases c2 : v3 < 0 ∨ 8 ≤ v3.toNatClampNeg
        · have hf := (if_pos c2).symm.trans hf
          cases hf
        have hf := (if_neg c2).symm.trans hf
        refine va_iald hx hb hK hP 7 0 rfl rfl (show vp_in v3 8 from c2) dX11_pullAt_15 ?_
        refine lv_aload_n hx hb dX11_pullAt_16 rfl (lv_at hl 0 rfl) ?_
        refine va_get (D := D) (ci := 8) (v := .ref th6) (C := RX11) (T := TX11) (N := 17) hx hb hts hi_X11 hown hK hP 0 rfl rfl 12 (by decide) (hts (.fieldLink RX11 29 "FairWheelModel" "now" "[I") (List.mem_of_getElem? (i := 2) rfl)) (fun _ h9 => h9) rfl dX11_pullAt_17 ?_
        refine lv_iload_n hx hb dX11_pullAt_20 rfl (lv_at hl 3 rfl) ?_
        by_cases c3 : v3 < 0 ∨ 8 ≤ v3.toNatClampNeg
        · have hf := (if_pos c3).symm.trans hf
          cases hf
        have hf := (if_neg c3).symm.trans hf
        refine va_iald hx hb hK hP 6 0 rfl rfl (show vp_in v3 8 from c3) dX11_pullAt_21 ?_
        refine lv_if_ge (tgt := 29) hx hb dX11_pullAt_22 (by decide) (fun c4 => ?_) (fun c4 => ?_)
        · have hf := (if_pos c4).symm.trans hf
          refine lv_aload_n hx hb dX11_pullAt_29 rfl (lv_at hl 0 rfl) ?_
          refine va_get (D := D) (ci := 8) (v := .ref th1) (C := RX11) (T := TX11) (N := 17) hx hb hts hi_X11 hown hK hP 0 rfl rfl 0 (by decide) (hts (.fieldLink RX11 7 "FairWheelModel" "weight" "[I") (List.mem_of_getElem? (i := 3) rfl)) (fun _ h9 => h9) rfl dX11_pullAt_30 ?_
          refine lv_aload_n hx hb dX11_pullAt_33 rfl (lv_at hl 0 rfl) ?_
          refine va_get (D := D) (ci := 8) (v := .ref th6) (C := RX11) (T := TX11) (N := 17) hx hb hts hi_X11 hown hK hP 0 rfl rfl 12 (by decide) (hts (.fieldLink RX11 29 "FairWheelModel" "now" "[I") (List.mem_of_getElem? (i := 2) rfl)) (fun _ h9 => h9) rfl dX11_pullAt_34 ?_
          refine lv_iload_n hx hb dX11_pullAt_37 rfl (lv_at hl 3 rfl) ?_
          by_cases c5 : v3 < 0 ∨ 8 ≤ v3.toNatClampNeg
          · have hf := (if_pos c5).symm.trans hf
            cases hf
          have hf := (if_neg c5).symm.trans hf
          refine va_iald hx hb hK hP 6 0 rfl rfl (show vp_in v3 8 from c5) dX11_pullAt_38 ?_
          by_cases c6 : ((M_now u_th) v3.toNatClampNeg) < 0 ∨ 8 ≤ ((M_now u_th) v3.toNatClampNeg).toNatClampNeg
          · have hf := (if_pos c6).symm.trans hf
            cases hf
          have hf := (if_neg c6).symm.trans hf
          refine va_iald hx hb hK hP 1 0 rfl rfl (show vp_in ((M_now u_th) v3.toNatClampNeg) 8 from c6) dX11_pullAt_39 ?_
          exact hJ40 (f_X11_pullAt_L4 u_th n) ih v1 v2 v3 ((M_heap u_th) v3.toNatClampNeg) ((M_weight u_th) ((M_now u_th) v3.toNatClampNeg).toNatClampNeg) _ _ ls (lv_sub hl [0, 1, 2, 3] rfl) hP hD hS hf
        · have hf := (if_neg c4).symm.trans hf
          refine lv_iconst (v := 0) hx hb dX11_pullAt_25 (by decide) ?_
          refine lv_goto (tgt := 40) hx hb dX11_pullAt_26 (by decide) ?_
          exact hJ40 (f_X11_pullAt_L4 u_th n) ih v1 v2 v3 ((M_heap u_th) v3.toNatClampNeg) (0 : Int32) _ _ ls (lv_sub hl [0, 1, 2, 3] rfl) hP hD hS hf
  rw [f_X11_pullAt] at hf
  refine lv_iconst (v := 0) hx hb dX11_pullAt_0 (by decide) ?_
  refine lv_istore_n (lv' := [(2, .int (0 : Int32)), (0, .ref th0), (1, .int p1)]) hx hb dX11_pullAt_1 rfl hl (by decide) rfl (fun ls hl => ?_)
  refine lv_iconst (v := 0) hx hb dX11_pullAt_2 (by decide) ?_
  refine lv_istore_n (lv' := [(3, .int (0 : Int32)), (2, .int (0 : Int32)), (0, .ref th0), (1, .int p1)]) hx hb dX11_pullAt_3 rfl hl (by decide) rfl (fun ls hl => ?_)
  exact hL4 oF p1 (0 : Int32) (0 : Int32) _ _ ls (lv_sub hl [2, 3, 1, 0] rfl) hP hD hS hf
theorem hd_X11_letGo : yX11_letGo.cls ≠ "java/lang/invoke/MethodHandle" ∧ yX11_letGo.cls ≠ "java/lang/invoke/VarHandle" ∧ (parseMethodDescriptor yX11_letGo.desc).map (fun d => d.parameters.length) = some 0 := by decide +kernel
set_option maxHeartbeats 4000000 in
set_option maxRecDepth 100000 in
theorem c_X11_letGo (l : Launch) (D : va_G) (cI cZ : ClassId) (th0 : Nat) (th1 : Nat) (th2 : Nat) (th3 : Nat) (th4 : Nat) (th5 : Nat) (th6 : Nat) (th7 : Nat) (th8 : Nat) (th9 : Nat) (sz : Nat) (u_th : sM) (z : sM) (hf : f_X11_letGo u_th = some z) : Met l yX11_letGo wsX11_letGo rmX11_letGo (va_Pc [.ref th0] (wPr D cI cZ (ceM cI cZ th0 th1 th2 th3 th4 th5 th6 th7 th8 th9 u_th) sz)) (va_Qv (fun (v : sM) => v = z) (fun (v : sM) t => wPo D cI cZ (va_A (ceM cI cZ th0 th1 th2 th3 th4 th5 th6 th7 th8 th9 u_th) sz) (ceM cI cZ th0 th1 th2 th3 th4 th5 th6 th7 th8 th9 v) t) (va_A (ceM cI cZ th0 th1 th2 th3 th4 th5 th6 th7 th8 th9 u_th) sz)) 0 0 (va_A (ceM cI cZ th0 th1 th2 th3 th4 th5 th6 th7 th8 th9 u_th) sz) := by
  refine k_enter (D := D) (cI := cI) (cZ := cZ) (wl := ceM cI cZ th0 th1 th2 th3 th4 th5 th6 th7 th8 th9 u_th) (sz := sz) (av := [.ref th0]) (cc := cX11_letGo) (maxL := 3) (ret := none) (Qc := fun A => va_Qv (fun (v : sM) => v = z) (fun (v : sM) t => wPo D cI cZ (A) (ceM cI cZ th0 th1 th2 th3 th4 th5 th6 th7 th8 th9 v) t) (A)) (by decide) rfl (Nat.le_of_ble_eq_true rfl) ?_
  intro p e s m below meth c ls A Q H locs eQ hx hb hr hml hts hown hlocks hK hP hD hS hA hE hl
  have hown : s.vm.findClass RX11 = some m.cls := hown
  have hl : lv_has ls 3 [(0, .ref th0)] := hl
  have hi_X11 : ∀ w ∈ wsX110, w ∈ wsX11_letGo := fun w h => List.mem_cons_of_mem _ (List.mem_append_right _ h)
  have hL36 : ∀ (n : Nat), ∀ (v2 : Int32) (u_th : sM) (H : Heap) (locs : List Loc) (ls : Array Slot), lv_has ls 3 [(0, .ref th0), (2, .int v2)] → va_P D vwCl (ceM cI cZ th0 th1 th2 th3 th4 th5 th6 th7 th8 th9 u_th) H → va_D A (ceM cI cZ th0 th1 th2 th3 th4 th5 th6 th7 th8 th9 u_th) → va_S A s.heap H locs → f_X11_letGo_L36 n v2 u_th = some z → W p l e (headSpec wsX11_letGo rmX11_letGo).room s m ([.ref th0] : List Value).toArray below meth c H locs 0 0 Q (F0 m 36 ls []) := by
    intro n
    induction n with
    | zero =>
      intro v2 u_th H locs ls hl hP hD hS hf
      exact absurd (show (none : Option (sM)) = some z from hf) (fun h => by cases h)
    | succ n ih =>
      intro v2 u_th H locs ls hl hP hD hS hf
      rw [f_X11_letGo_L36] at hf
      refine lv_iload_n hx hb dX11_letGo_36 rfl (lv_at hl 1 rfl) ?_
      refine lv_aload_n hx hb dX11_letGo_37 rfl (lv_at hl 0 rfl) ?_
      refine lv_aload_n hx hb dX11_letGo_38 rfl (lv_at hl 0 rfl) ?_
      refine va_get (D := D) (ci := 8) (v := .int (M_foot u_th)) (C := RX11) (T := TX11) (N := 17) hx hb hts hi_X11 hown hK hP 0 rfl rfl 9 (by decide) (hts (.fieldLink RX11 60 "FairWheelModel" "foot" "I") (List.mem_of_getElem? (i := 1) rfl)) (fun _ h9 => h9) rfl dX11_letGo_39 ?_
      obtain ⟨z4, hz_z4, hf⟩ := o_bind hf
      refine k_calli (va_runV (As := [.int (M_foot u_th)]) (rest := [.int v2]) ⟨hx, hb, hml, hown, hts⟩ (c_X11_pullAt l D cI cZ th0 th1 th2 th3 th4 th5 th6 th7 th8 th9 H.size u_th (M_foot u_th) z4 hz_z4) (cwV 1 hts gX11_letGo_X11_pullAt rfl rfl rfl ⟨rfl, hd_X11_pullAt⟩ ⟨Nat.le_of_ble_eq_true rfl, Nat.le_of_ble_eq_true rfl⟩) (k_preV hK hP hD hS hA hE [0, 1, 2, 3, 4, 5, 6, 7, 8, 9] (by decide) rfl (ci := 8) rfl rfl) rfl rfl hl.1 rfl (lv_room (Nat.le_of_ble_eq_true rfl)) dX11_letGo_42 ⟨Nat.zero_le _, Nat.zero_le _⟩) hP hD hS hA [0, 1, 2, 3, 4, 5, 6, 7, 8, 9] [some 0, some 1, some 2, some 3, some 4, some 5, some 6, some 7, some 8, some 9] 10 rfl (by decide) (by decide) rfl rfl (fun H locs hP hD hS => ?_)
      have hP : va_P D vwCl (ceM cI cZ th0 th1 th2 th3 th4 th5 th6 th7 th8 th9 u_th) H := hP
      have hD : va_D A (ceM cI cZ th0 th1 th2 th3 th4 th5 th6 th7 th8 th9 u_th) := hD
      refine lv_imul hx hb dX11_letGo_45 ?_
      refine lv_aload_n hx hb dX11_letGo_46 rfl (lv_at hl 0 rfl) ?_
      refine va_get (D := D) (ci := 8) (v := .int (M_drag u_th)) (C := RX11) (T := TX11) (N := 17) hx hb hts hi_X11 hown hK hP 0 rfl rfl 4 (by decide) (hts (.fieldLink RX11 19 "FairWheelModel" "drag" "I") (List.mem_of_getElem? (i := 2) rfl)) (fun _ h9 => h9) rfl dX11_letGo_47 ?_
      refine lv_icmp_le (tgt := 92) hx hb dX11_letGo_50 (by decide) (fun c5 => ?_) (fun c5 => ?_)
      · have hf := (if_pos c5).symm.trans hf
        exact k_vret (u := u_th) hx hb hr hlocks hK hS eQ hf hP hD dX11_letGo_92
      · have hf := (if_neg c5).symm.trans hf
        refine lv_aload_n hx hb dX11_letGo_53 rfl (lv_at hl 0 rfl) ?_
        refine lv_aload_n hx hb dX11_letGo_54 rfl (lv_at hl 0 rfl) ?_
        refine va_get (D := D) (ci := 8) (v := .int (M_foot u_th)) (C := RX11) (T := TX11) (N := 17) hx hb hts hi_X11 hown hK hP 0 rfl rfl 9 (by decide) (hts (.fieldLink RX11 60 "FairWheelModel" "foot" "I") (List.mem_of_getElem? (i := 1) rfl)) (fun _ h9 => h9) rfl dX11_letGo_55 ?_
        refine lv_iload_n hx hb dX11_letGo_58 rfl (lv_at hl 1 rfl) ?_
        refine lv_iadd hx hb dX11_letGo_59 ?_
        refine lv_bipush (v := 8) hx hb dX11_letGo_60 (by decide) ?_
        refine lv_iadd hx hb dX11_letGo_62 ?_
        refine lv_bipush (v := 8) hx hb dX11_letGo_63 (by decide) ?_
        refine lv_irem hx hb dX11_letGo_65 (by decide) ?_
        refine va_put (D := D) (ci := 8) (v := .int ((((M_foot u_th) + v2) + (8 : Int32)) - (((M_foot u_th) + v2) + (8 : Int32)) / (8 : Int32) * (8 : Int32))) (ty := .int) (C := RX11) (T := TX11) (N := 17) hx hb hts hi_X11 tyX11 tyX11_ok nmX11 hown hK hP hD hS 0 rfl rfl 9 (by decide) (hts (.fieldLink RX11 60 "FairWheelModel" "foot" "I") (List.mem_of_getElem? (i := 1) rfl)) (fun _ h9 => h9) rfl (by decide +kernel) rfl rfl (Nat.le_of_ble_eq_true rfl) dX11_letGo_66 (fun H locs hP hD hS => ?_)
        have hP : va_P D vwCl (ceM cI cZ th0 th1 th2 th3 th4 th5 th6 th7 th8 th9 ((M_weight u_th), (M_sits u_th), (M_stones u_th), (M_at u_th), (M_drag u_th), (M_sights u_th), (M_sight u_th), (M_signs u_th), (M_pad u_th), ((((M_foot u_th) + v2) + (8 : Int32)) - (((M_foot u_th) + v2) + (8 : Int32)) / (8 : Int32) * (8 : Int32)), (M_turned u_th), (M_bothWays u_th), (M_now u_th), (M_heap u_th), (M_reason u_th), (M_image u_th), (M_isKept u_th))) H := hP
        have hD : va_D A (ceM cI cZ th0 th1 th2 th3 th4 th5 th6 th7 th8 th9 ((M_weight u_th), (M_sits u_th), (M_stones u_th), (M_at u_th), (M_drag u_th), (M_sights u_th), (M_sight u_th), (M_signs u_th), (M_pad u_th), ((((M_foot u_th) + v2) + (8 : Int32)) - (((M_foot u_th) + v2) + (8 : Int32)) / (8 : Int32) * (8 : Int32)), (M_turned u_th), (M_bothWays u_th), (M_now u_th), (M_heap u_th), (M_reason u_th), (M_image u_th), (M_isKept u_th))) := hD
        refine lv_aload_n hx hb dX11_letGo_69 rfl (lv_at hl 0 rfl) ?_
        refine lv_dup hx hb dX11_letGo_70 rfl ?_
        refine va_get (D := D) (ci := 8) (v := .int (M_turned u_th)) (C := RX11) (T := TX11) (N := 17) hx hb hts hi_X11 hown hK hP 0 rfl rfl 10 (by decide) (hts (.fieldLink RX11 63 "FairWheelModel" "turned" "I") (List.mem_of_getElem? (i := 3) rfl)) (fun _ h9 => h9) rfl dX11_letGo_71 ?_
        refine lv_iload_n hx hb dX11_letGo_74 rfl (lv_at hl 1 rfl) ?_
        refine lv_iadd hx hb dX11_letGo_75 ?_
        refine va_put (D := D) (ci := 8) (v := .int ((M_turned u_th) + v2)) (ty := .int) (C := RX11) (T := TX11) (N := 17) hx hb hts hi_X11 tyX11 tyX11_ok nmX11 hown hK hP hD hS 0 rfl rfl 10 (by decide) (hts (.fieldLink RX11 63 "FairWheelModel" "turned" "I") (List.mem_of_getElem? (i := 3) rfl)) (fun _ h9 => h9) rfl (by decide +kernel) rfl rfl (Nat.le_of_ble_eq_true rfl) dX11_letGo_76 (fun H locs hP hD hS => ?_)
        have hP : va_P D vwCl (ceM cI cZ th0 th1 th2 th3 th4 th5 th6 th7 th8 th9 ((M_weight u_th), (M_sits u_th), (M_stones u_th), (M_at u_th), (M_drag u_th), (M_sights u_th), (M_sight u_th), (M_signs u_th), (M_pad u_th), ((((M_foot u_th) + v2) + (8 : Int32)) - (((M_foot u_th) + v2) + (8 : Int32)) / (8 : Int32) * (8 : Int32)), ((M_turned u_th) + v2), (M_bothWays u_th), (M_now u_th), (M_heap u_th), (M_reason u_th), (M_image u_th), (M_isKept u_th))) H := hP
        have hD : va_D A (ceM cI cZ th0 th1 th2 th3 th4 th5 th6 th7 th8 th9 ((M_weight u_th), (M_sits u_th), (M_stones u_th), (M_at u_th), (M_drag u_th), (M_sights u_th), (M_sight u_th), (M_signs u_th), (M_pad u_th), ((((M_foot u_th) + v2) + (8 : Int32)) - (((M_foot u_th) + v2) + (8 : Int32)) / (8 : Int32) * (8 : Int32)), ((M_turned u_th) + v2), (M_bothWays u_th), (M_now u_th), (M_heap u_th), (M_reason u_th), (M_image u_th), (M_isKept u_th))) := hD
        refine lv_aload_n hx hb dX11_letGo_79 rfl (lv_at hl 0 rfl) ?_
        refine lv_dup hx hb dX11_letGo_80 rfl ?_
        refine va_get (D := D) (ci := 8) (v := .int (M_bothWays u_th)) (C := RX11) (T := TX11) (N := 17) hx hb hts hi_X11 hown hK hP 0 rfl rfl 11 (by decide) (hts (.fieldLink RX11 66 "FairWheelModel" "bothWays" "I") (List.mem_of_getElem? (i := 4) rfl)) (fun _ h9 => h9) rfl dX11_letGo_81 ?_
        refine lv_iconst (v := 1) hx hb dX11_letGo_84 (by decide) ?_
        refine lv_iadd hx hb dX11_letGo_85 ?_
        refine va_put (D := D) (ci := 8) (v := .int ((M_bothWays u_th) + (1 : Int32))) (ty := .int) (C := RX11) (T := TX11) (N := 17) hx hb hts hi_X11 tyX11 tyX11_ok nmX11 hown hK hP hD hS 0 rfl rfl 11 (by decide) (hts (.fieldLink RX11 66 "FairWheelModel" "bothWays" "I") (List.mem_of_getElem? (i := 4) rfl)) (fun _ h9 => h9) rfl (by decide +kernel) rfl rfl (Nat.le_of_ble_eq_true rfl) dX11_letGo_86 (fun H locs hP hD hS => ?_)
        have hP : va_P D vwCl (ceM cI cZ th0 th1 th2 th3 th4 th5 th6 th7 th8 th9 ((M_weight u_th), (M_sits u_th), (M_stones u_th), (M_at u_th), (M_drag u_th), (M_sights u_th), (M_sight u_th), (M_signs u_th), (M_pad u_th), ((((M_foot u_th) + v2) + (8 : Int32)) - (((M_foot u_th) + v2) + (8 : Int32)) / (8 : Int32) * (8 : Int32)), ((M_turned u_th) + v2), ((M_bothWays u_th) + (1 : Int32)), (M_now u_th), (M_heap u_th), (M_reason u_th), (M_image u_th), (M_isKept u_th))) H := hP
        have hD : va_D A (ceM cI cZ th0 th1 th2 th3 th4 th5 th6 th7 th8 th9 ((M_weight u_th), (M_sits u_th), (M_stones u_th), (M_at u_th), (M_drag u_th), (M_sights u_th), (M_sight u_th), (M_signs u_th), (M_pad u_th), ((((M_foot u_th) + v2) + (8 : Int32)) - (((M_foot u_th) + v2) + (8 : Int32)) / (8 : Int32) * (8 : Int32)), ((M_turned u_th) + v2), ((M_bothWays u_th) + (1 : Int32)), (M_now u_th), (M_heap u_th), (M_reason u_th), (M_image u_th), (M_isKept u_th))) := hD
        refine lv_goto (tgt := 36) hx hb dX11_letGo_89 (by decide) ?_
        exact ih v2 ((M_weight u_th), (M_sits u_th), (M_stones u_th), (M_at u_th), (M_drag u_th), (M_sights u_th), (M_sight u_th), (M_signs u_th), (M_pad u_th), ((((M_foot u_th) + v2) + (8 : Int32)) - (((M_foot u_th) + v2) + (8 : Int32)) / (8 : Int32) * (8 : Int32)), ((M_turned u_th) + v2), ((M_bothWays u_th) + (1 : Int32)), (M_now u_th), (M_heap u_th), (M_reason u_th), (M_image u_th), (M_isKept u_th)) _ _ ls (lv_sub hl [0, 1] rfl) hP hD hS hf
  rw [f_X11_letGo] at hf
  refine lv_aload_n hx hb dX11_letGo_0 rfl (lv_at hl 0 rfl) ?_
  refine lv_aload_n hx hb dX11_letGo_1 rfl (lv_at hl 0 rfl) ?_
  refine va_get (D := D) (ci := 8) (v := .int (M_foot u_th)) (C := RX11) (T := TX11) (N := 17) hx hb hts hi_X11 hown hK hP 0 rfl rfl 9 (by decide) (hts (.fieldLink RX11 60 "FairWheelModel" "foot" "I") (List.mem_of_getElem? (i := 1) rfl)) (fun _ h9 => h9) rfl dX11_letGo_2 ?_
  obtain ⟨z1, hz_z1, hf⟩ := o_bind hf
  refine k_calli (va_runV (As := [.int (M_foot u_th)]) (rest := []) ⟨hx, hb, hml, hown, hts⟩ (c_X11_pullAt l D cI cZ th0 th1 th2 th3 th4 th5 th6 th7 th8 th9 H.size u_th (M_foot u_th) z1 hz_z1) (cwV 1 hts gX11_letGo_X11_pullAt rfl rfl rfl ⟨rfl, hd_X11_pullAt⟩ ⟨Nat.le_of_ble_eq_true rfl, Nat.le_of_ble_eq_true rfl⟩) (k_preV hK hP hD hS hA hE [0, 1, 2, 3, 4, 5, 6, 7, 8, 9] (by decide) rfl (ci := 8) rfl rfl) rfl rfl hl.1 rfl (lv_room (Nat.le_of_ble_eq_true rfl)) dX11_letGo_5 ⟨Nat.zero_le _, Nat.zero_le _⟩) hP hD hS hA [0, 1, 2, 3, 4, 5, 6, 7, 8, 9] [some 0, some 1, some 2, some 3, some 4, some 5, some 6, some 7, some 8, some 9] 10 rfl (by decide) (by decide) rfl rfl (fun H locs hP hD hS => ?_)
  have hP : va_P D vwCl (ceM cI cZ th0 th1 th2 th3 th4 th5 th6 th7 th8 th9 u_th) H := hP
  have hD : va_D A (ceM cI cZ th0 th1 th2 th3 th4 th5 th6 th7 th8 th9 u_th) := hD
  refine lv_istore_n (lv' := [(1, .int z1.1), (0, .ref th0)]) hx hb dX11_letGo_8 rfl hl (by decide) rfl (fun ls hl => ?_)
  refine lv_iload_n hx hb dX11_letGo_9 rfl (lv_at hl 0 rfl) ?_
  refine lv_aload_n hx hb dX11_letGo_10 rfl (lv_at hl 1 rfl) ?_
  refine va_get (D := D) (ci := 8) (v := .int (M_drag u_th)) (C := RX11) (T := TX11) (N := 17) hx hb hts hi_X11 hown hK hP 0 rfl rfl 4 (by decide) (hts (.fieldLink RX11 19 "FairWheelModel" "drag" "I") (List.mem_of_getElem? (i := 2) rfl)) (fun _ h9 => h9) rfl dX11_letGo_11 ?_
  refine lv_icmp_le (tgt := 21) hx hb dX11_letGo_14 (by decide) (fun c2 => ?_) (fun c2 => ?_)
  · have hf := (if_pos c2).symm.trans hf
    refine lv_iload_n hx hb dX11_letGo_21 rfl (lv_at hl 0 rfl) ?_
    refine lv_aload_n hx hb dX11_letGo_22 rfl (lv_at hl 1 rfl) ?_
    refine va_get (D := D) (ci := 8) (v := .int (M_drag u_th)) (C := RX11) (T := TX11) (N := 17) hx hb hts hi_X11 hown hK hP 0 rfl rfl 4 (by decide) (hts (.fieldLink RX11 19 "FairWheelModel" "drag" "I") (List.mem_of_getElem? (i := 2) rfl)) (fun _ h9 => h9) rfl dX11_letGo_23 ?_
    refine lv_ineg hx hb dX11_letGo_26 ?_
    refine lv_icmp_ge (tgt := 34) hx hb dX11_letGo_27 (by decide) (fun c3 => ?_) (fun c3 => ?_)
    · have hf := (if_pos c3).symm.trans hf
      refine lv_iconst (v := 0) hx hb dX11_letGo_34 (by decide) ?_
      refine lv_istore_n (lv' := [(2, .int (0 : Int32)), (1, .int z1.1), (0, .ref th0)]) hx hb dX11_letGo_35 rfl hl (by decide) rfl (fun ls hl => ?_)
      exact hL36 oF (0 : Int32) u_th _ _ ls (lv_sub hl [2, 0] rfl) hP hD hS hf
    · have hf := (if_neg c3).symm.trans hf
      refine lv_iconst (v := -1) hx hb dX11_letGo_30 (by decide) ?_
      refine lv_goto (tgt := 35) hx hb dX11_letGo_31 (by decide) ?_
      refine lv_istore_n (lv' := [(2, .int (-1 : Int32)), (1, .int z1.1), (0, .ref th0)]) hx hb dX11_letGo_35 rfl hl (by decide) rfl (fun ls hl => ?_)
      exact hL36 oF (-1 : Int32) u_th _ _ ls (lv_sub hl [2, 0] rfl) hP hD hS hf
  · have hf := (if_neg c2).symm.trans hf
    refine lv_iconst (v := 1) hx hb dX11_letGo_17 (by decide) ?_
    refine lv_goto (tgt := 35) hx hb dX11_letGo_18 (by decide) ?_
    refine lv_istore_n (lv' := [(2, .int (1 : Int32)), (1, .int z1.1), (0, .ref th0)]) hx hb dX11_letGo_35 rfl hl (by decide) rfl (fun ls hl => ?_)
    exact hL36 oF (1 : Int32) u_th _ _ ls (lv_sub hl [2, 0] rfl) hP hD hS hf
theorem hd_X11_carOf : yX11_carOf.cls ≠ "java/lang/invoke/MethodHandle" ∧ yX11_carOf.cls ≠ "java/lang/invoke/VarHandle" ∧ (parseMethodDescriptor yX11_carOf.desc).map (fun d => d.parameters.length) = some 1 := by decide +kernel
set_option maxHeartbeats 4000000 in
set_option maxRecDepth 100000 in
theorem c_X11_carOf (l : Launch) (D : va_G) (cI cZ : ClassId) (th0 : Nat) (th1 : Nat) (th2 : Nat) (th3 : Nat) (th4 : Nat) (th5 : Nat) (th6 : Nat) (th7 : Nat) (th8 : Nat) (th9 : Nat) (sz : Nat) (u_th : sM) (p1 : Int32) (z : Int32 × Unit) (hf : f_X11_carOf u_th p1 = some z) : Met l yX11_carOf wsX11_carOf rmX11_carOf (va_Pc [.ref th0, .int p1] (wPr D cI cZ (ceM cI cZ th0 th1 th2 th3 th4 th5 th6 th7 th8 th9 u_th) sz)) (va_Qi (fun (r : Int32) (v : Unit) => (r, v) = z) (fun (v : Unit) t => wPo D cI cZ (va_A (ceM cI cZ th0 th1 th2 th3 th4 th5 th6 th7 th8 th9 u_th) sz) (ceM cI cZ th0 th1 th2 th3 th4 th5 th6 th7 th8 th9 u_th) t) (va_A (ceM cI cZ th0 th1 th2 th3 th4 th5 th6 th7 th8 th9 u_th) sz)) 0 0 (va_A (ceM cI cZ th0 th1 th2 th3 th4 th5 th6 th7 th8 th9 u_th) sz) := by
  refine k_enter (D := D) (cI := cI) (cZ := cZ) (wl := ceM cI cZ th0 th1 th2 th3 th4 th5 th6 th7 th8 th9 u_th) (sz := sz) (av := [.ref th0, .int p1]) (cc := cX11_carOf) (maxL := 4) (ret := (some .int)) (Qc := fun A => va_Qi (fun (r : Int32) (v : Unit) => (r, v) = z) (fun (v : Unit) t => wPo D cI cZ (A) (ceM cI cZ th0 th1 th2 th3 th4 th5 th6 th7 th8 th9 u_th) t) (A)) (by decide) rfl (Nat.le_of_ble_eq_true rfl) ?_
  intro p e s m below meth c ls A Q H locs eQ hx hb hr hml hts hown hlocks hK hP hD hS hA hE hl
  have hown : s.vm.findClass RX11 = some m.cls := hown
  have hl : lv_has ls 4 [(0, .ref th0), (1, .int p1)] := hl
  have hi_X11 : ∀ w ∈ wsX110, w ∈ wsX11_carOf := fun w h => List.mem_cons_of_mem _ (List.mem_append_right _ h)
  have hL5 : ∀ (n : Nat), ∀ (v1 : Int32) (v2 : Int32) (v3 : Int32) (H : Heap) (locs : List Loc) (ls : Array Slot), lv_has ls 4 [(0, .ref th0), (1, .int v1), (2, .int v2), (3, .int v3)] → va_P D vwCl (ceM cI cZ th0 th1 th2 th3 th4 th5 th6 th7 th8 th9 u_th) H → va_D A (ceM cI cZ th0 th1 th2 th3 th4 th5 th6 th7 th8 th9 u_th) → va_S A s.heap H locs → f_X11_carOf_L5 u_th n v1 v2 v3 = some z → W p l e (headSpec wsX11_carOf rmX11_carOf).room s m ([.ref th0, .int p1] : List Value).toArray below meth c H locs 0 0 Q (F0 m 5 ls []) := by
    intro n
    induction n with
    | zero =>
      intro v1 v2 v3 H locs ls hl hP hD hS hf
      exact absurd (show (none : Option (Int32 × Unit)) = some z from hf) (fun h => by cases h)
    | succ n ih =>
      intro v1 v2 v3 H locs ls hl hP hD hS hf
      rw [f_X11_carOf_L5] at hf
      refine lv_iload_n hx hb dX11_carOf_5 rfl (lv_at hl 3 rfl) ?_
      refine lv_bipush (v := 8) hx hb dX11_carOf_6 (by decide) ?_
      refine lv_icmp_ge (tgt := 33) hx hb dX11_carOf_8 (by decide) (fun c1 => ?_) (fun c1 => ?_)
      · have hf := (if_pos c1).symm.trans hf
        refine lv_iload_n hx hb dX11_carOf_33 rfl (lv_at hl 2 rfl) ?_
        exact k_iret (v := v2) (u := ()) hx hb hr hlocks hK hS eQ hf hP hD dX11_carOf_34
      · have hf := (if_neg c1).symm.trans hf
        refine lv_aload_n hx hb dX11_carOf_11 rfl (lv_at hl 0 rfl) ?_
        refine va_get (D := D) (ci := 8) (v := .ref th6) (C := RX11) (T := TX11) (N := 17) hx hb hts hi_X11 hown hK hP 0 rfl rfl 12 (by decide) (hts (.fieldLink RX11 29 "FairWheelModel" "now" "[I") (List.mem_of_getElem? (i := 1) rfl)) (fun _ h9 => h9) rfl dX11_carOf_12 ?_
        refine lv_iload_n hx hb dX11_carOf_15 rfl (lv_at hl 3 rfl) ?_
        by_cases c2 : v3 < 0 ∨ 8 ≤ v3.toNatClampNeg
        · have hf := (if_pos c2).symm.trans hf
          cases hf
        have hf := (if_neg c2).symm.trans hf
        refine va_iald hx hb hK hP 6 0 rfl rfl (show vp_in v3 8 from c2) dX11_carOf_16 ?_
        refine lv_iload_n hx hb dX11_carOf_17 rfl (lv_at hl 1 rfl) ?_
        refine lv_icmp_ne (tgt := 25) hx hb dX11_carOf_18 (by decide) (fun c3 => ?_) (fun c3 => ?_)
        · have hf := (if_neg c3).symm.trans hf
          refine lv_iload_n hx hb dX11_carOf_25 rfl (lv_at hl 2 rfl) ?_
          refine lv_istore_n (lv' := [(2, .int v2), (0, .ref th0), (1, .int v1), (3, .int v3)]) hx hb dX11_carOf_26 rfl hl (by decide) rfl (fun ls hl => ?_)
          refine lv_iinc (v := (v3 + (1 : Int32))) (lv' := [(3, .int (v3 + (1 : Int32))), (2, .int v2), (0, .ref th0), (1, .int v1)]) hx hb dX11_carOf_27 hl (k := 3) rfl rfl (by decide) rfl (fun ls hl => ?_)
          refine lv_goto (tgt := 5) hx hb dX11_carOf_30 (by decide) ?_
          exact ih v1 v2 (v3 + (1 : Int32)) _ _ ls (lv_sub hl [2, 3, 1, 0] rfl) hP hD hS hf
        · have hf := (if_pos c3).symm.trans hf
          refine lv_iload_n hx hb dX11_carOf_21 rfl (lv_at hl 3 rfl) ?_
          refine lv_goto (tgt := 26) hx hb dX11_carOf_22 (by decide) ?_
          refine lv_istore_n (lv' := [(2, .int v3), (0, .ref th0), (1, .int v1), (3, .int v3)]) hx hb dX11_carOf_26 rfl hl (by decide) rfl (fun ls hl => ?_)
          refine lv_iinc (v := (v3 + (1 : Int32))) (lv' := [(3, .int (v3 + (1 : Int32))), (2, .int v3), (0, .ref th0), (1, .int v1)]) hx hb dX11_carOf_27 hl (k := 3) rfl rfl (by decide) rfl (fun ls hl => ?_)
          refine lv_goto (tgt := 5) hx hb dX11_carOf_30 (by decide) ?_
          exact ih v1 v3 (v3 + (1 : Int32)) _ _ ls (lv_sub hl [2, 3, 1, 0] rfl) hP hD hS hf
  rw [f_X11_carOf] at hf
  refine lv_bipush (v := -6) hx hb dX11_carOf_0 (by decide) ?_
  refine lv_istore_n (lv' := [(2, .int (-6 : Int32)), (0, .ref th0), (1, .int p1)]) hx hb dX11_carOf_2 rfl hl (by decide) rfl (fun ls hl => ?_)
  refine lv_iconst (v := 0) hx hb dX11_carOf_3 (by decide) ?_
  refine lv_istore_n (lv' := [(3, .int (0 : Int32)), (2, .int (-6 : Int32)), (0, .ref th0), (1, .int p1)]) hx hb dX11_carOf_4 rfl hl (by decide) rfl (fun ls hl => ?_)
  exact hL5 oF p1 (-6 : Int32) (0 : Int32) _ _ ls (lv_sub hl [2, 3, 1, 0] rfl) hP hD hS hf
