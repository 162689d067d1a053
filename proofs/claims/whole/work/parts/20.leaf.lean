theorem hd_X10_at : yX10_at.cls ≠ "java/lang/invoke/MethodHandle" ∧ yX10_at.cls ≠ "java/lang/invoke/VarHandle" ∧ (parseMethodDescriptor yX10_at.desc).map (fun d => d.parameters.length) = some 2 := by decide +kernel
set_option maxHeartbeats 4000000 in
set_option maxRecDepth 100000 in
theorem c_X10_at (l : Launch) (D : va_G) (cI cZ : ClassId) (r00 : Nat) (sz : Nat) (n_r0 : Nat) (u_r0 : Fn) (p1 : Int32) (z : Int32 × Unit) (hf : f_X10_at n_r0 u_r0 p1 = some z) : Met l yX10_at wsX10_at rmX10_at (va_Pc [.ref r00, .int p1] (wPr D cI cZ (ceA cI r00 n_r0 u_r0) sz)) (va_Qi (fun (r : Int32) (v : Unit) => (r, v) = z) (fun (v : Unit) t => wPo D cI cZ (va_A (ceA cI r00 n_r0 u_r0) sz) (ceA cI r00 n_r0 u_r0) t) (va_A (ceA cI r00 n_r0 u_r0) sz)) 0 0 (va_A (ceA cI r00 n_r0 u_r0) sz) := by
  refine k_enter (D := D) (cI := cI) (cZ := cZ) (wl := ceA cI r00 n_r0 u_r0) (sz := sz) (av := [.ref r00, .int p1]) (cc := cX10_at) (maxL := 2) (ret := (some .int)) (Qc := fun A => va_Qi (fun (r : Int32) (v : Unit) => (r, v) = z) (fun (v : Unit) t => wPo D cI cZ (A) (ceA cI r00 n_r0 u_r0) t) (A)) (by decide) rfl (Nat.le_of_ble_eq_true rfl) ?_
  intro p e s m below meth c ls A Q H locs eQ hx hb hr hml hts hown hlocks hK hP hD hS hA hE hl
  have hown : s.vm.findClass RX10 = some m.cls := hown
  have hl : lv_has ls 2 [(0, .ref r00), (1, .int p1)] := hl
  rw [f_X10_at] at hf
  refine lv_iload_n hx hb dX10_at_0 rfl (lv_at hl 1 rfl) ?_
  refine lv_if_lt (tgt := 16) hx hb dX10_at_1 (by decide) (fun c1 => ?_) (fun c1 => ?_)
  · have hf := (if_pos c1).symm.trans hf
    refine lv_bipush (v := -6) hx hb dX10_at_16 (by decide) ?_
    exact k_iret (v := (-6 : Int32)) (u := ()) hx hb hr hlocks hK hS eQ hf hP hD dX10_at_18
  · have hf := (if_neg c1).symm.trans hf
    refine lv_iload_n hx hb dX10_at_4 rfl (lv_at hl 1 rfl) ?_
    refine lv_aload_n hx hb dX10_at_5 rfl (lv_at hl 0 rfl) ?_
    refine va_alen hx hb hK hP 0 0 rfl rfl (v := (Int32.ofNat n_r0)) rfl dX10_at_6 ?_
    refine lv_icmp_ge (tgt := 16) hx hb dX10_at_7 (by decide) (fun c2 => ?_) (fun c2 => ?_)
    · have hf := (if_pos c2).symm.trans hf
      refine lv_bipush (v := -6) hx hb dX10_at_16 (by decide) ?_
      exact k_iret (v := (-6 : Int32)) (u := ()) hx hb hr hlocks hK hS eQ hf hP hD dX10_at_18
    · have hf := (if_neg c2).symm.trans hf
      refine lv_aload_n hx hb dX10_at_10 rfl (lv_at hl 0 rfl) ?_
      refine lv_iload_n hx hb dX10_at_11 rfl (lv_at hl 1 rfl) ?_
      by_cases c3 : p1 < 0 ∨ n_r0 ≤ p1.toNatClampNeg
      · have hf := (if_pos c3).symm.trans hf
        cases hf
      have hf := (if_neg c3).symm.trans hf
      refine va_iald hx hb hK hP 0 0 rfl rfl (show vp_in p1 n_r0 from c3) dX10_at_12 ?_
      refine lv_goto (tgt := 18) hx hb dX10_at_13 (by decide) ?_
      exact k_iret (v := (u_r0 p1.toNatClampNeg)) (u := ()) hx hb hr hlocks hK hS eQ hf hP hD dX10_at_18
theorem hd_X10_put : yX10_put.cls ≠ "java/lang/invoke/MethodHandle" ∧ yX10_put.cls ≠ "java/lang/invoke/VarHandle" ∧ (parseMethodDescriptor yX10_put.desc).map (fun d => d.parameters.length) = some 3 := by decide +kernel
set_option maxHeartbeats 4000000 in
set_option maxRecDepth 100000 in
theorem c_X10_put (l : Launch) (D : va_G) (cI cZ : ClassId) (r00 : Nat) (sz : Nat) (n_r0 : Nat) (u_r0 : Fn) (p1 : Int32) (p2 : Int32) (z : Fn) (hf : f_X10_put n_r0 u_r0 p1 p2 = some z) : Met l yX10_put wsX10_put rmX10_put (va_Pc [.ref r00, .int p1, .int p2] (wPr D cI cZ (ceA cI r00 n_r0 u_r0) sz)) (va_Qv (fun (v : Fn) => v = z) (fun (v : Fn) t => wPo D cI cZ (va_A (ceA cI r00 n_r0 u_r0) sz) (ceA cI r00 n_r0 v) t) (va_A (ceA cI r00 n_r0 u_r0) sz)) 0 0 (va_A (ceA cI r00 n_r0 u_r0) sz) := by
  refine k_enter (D := D) (cI := cI) (cZ := cZ) (wl := ceA cI r00 n_r0 u_r0) (sz := sz) (av := [.ref r00, .int p1, .int p2]) (cc := cX10_put) (maxL := 3) (ret := none) (Qc := fun A => va_Qv (fun (v : Fn) => v = z) (fun (v : Fn) t => wPo D cI cZ (A) (ceA cI r00 n_r0 v) t) (A)) (by decide) rfl (Nat.le_of_ble_eq_true rfl) ?_
  intro p e s m below meth c ls A Q H locs eQ hx hb hr hml hts hown hlocks hK hP hD hS hA hE hl
  have hown : s.vm.findClass RX10 = some m.cls := hown
  have hl : lv_has ls 3 [(0, .ref r00), (1, .int p1), (2, .int p2)] := hl
  rw [f_X10_put] at hf
  refine lv_iload_n hx hb dX10_put_0 rfl (lv_at hl 1 rfl) ?_
  refine lv_if_lt (tgt := 14) hx hb dX10_put_1 (by decide) (fun c1 => ?_) (fun c1 => ?_)
  · have hf := (if_pos c1).symm.trans hf
    exact k_vret (u := u_r0) hx hb hr hlocks hK hS eQ hf hP hD dX10_put_14
  · have hf := (if_neg c1).symm.trans hf
    refine lv_iload_n hx hb dX10_put_4 rfl (lv_at hl 1 rfl) ?_
    refine lv_aload_n hx hb dX10_put_5 rfl (lv_at hl 0 rfl) ?_
    refine va_alen hx hb hK hP 0 0 rfl rfl (v := (Int32.ofNat n_r0)) rfl dX10_put_6 ?_
    refine lv_icmp_ge (tgt := 14) hx hb dX10_put_7 (by decide) (fun c2 => ?_) (fun c2 => ?_)
    · have hf := (if_pos c2).symm.trans hf
      exact k_vret (u := u_r0) hx hb hr hlocks hK hS eQ hf hP hD dX10_put_14
    · have hf := (if_neg c2).symm.trans hf
      refine lv_aload_n hx hb dX10_put_10 rfl (lv_at hl 0 rfl) ?_
      refine lv_iload_n hx hb dX10_put_11 rfl (lv_at hl 1 rfl) ?_
      refine lv_iload_n hx hb dX10_put_12 rfl (lv_at hl 2 rfl) ?_
      by_cases c3 : p1 < 0 ∨ n_r0 ≤ p1.toNatClampNeg
      · have hf := (if_pos c3).symm.trans hf
        cases hf
      have hf := (if_neg c3).symm.trans hf
      refine va_iast hx hb hK hP hD hS 0 0 rfl rfl (show vp_in p1 n_r0 from c3) dX10_put_13 (fun H locs hP hD hS => ?_)
      have hP : va_P D vwCl (ceA cI r00 n_r0 (upd u_r0 p1.toNatClampNeg p2)) H := hP
      have hD : va_D A (ceA cI r00 n_r0 (upd u_r0 p1.toNatClampNeg p2)) := hD
      exact k_vret (u := (upd u_r0 p1.toNatClampNeg p2)) hx hb hr hlocks hK hS eQ hf hP hD dX10_put_14
theorem hd_X10_isPerson : yX10_isPerson.cls ≠ "java/lang/invoke/MethodHandle" ∧ yX10_isPerson.cls ≠ "java/lang/invoke/VarHandle" ∧ (parseMethodDescriptor yX10_isPerson.desc).map (fun d => d.parameters.length) = some 1 := by decide +kernel
set_option maxHeartbeats 4000000 in
set_option maxRecDepth 100000 in
theorem c_X10_isPerson (l : Launch) (D : va_G) (cI cZ : ClassId) (sz : Nat) (p0 : Int32) (z : Int32 × Unit) (hf : f_X10_isPerson p0 = some z) : Met l yX10_isPerson wsX10_isPerson rmX10_isPerson (va_Pc [.int p0] (wPr D cI cZ (([] : va_W)) sz)) (va_Qi (fun (r : Int32) (v : Unit) => (r, v) = z) (fun (v : Unit) t => wPo D cI cZ (va_A (([] : va_W)) sz) (([] : va_W)) t) (va_A (([] : va_W)) sz)) 0 0 (va_A (([] : va_W)) sz) := by
  refine k_enter (D := D) (cI := cI) (cZ := cZ) (wl := ([] : va_W)) (sz := sz) (av := [.int p0]) (cc := cX10_isPerson) (maxL := 1) (ret := (some .boolean)) (Qc := fun A => va_Qi (fun (r : Int32) (v : Unit) => (r, v) = z) (fun (v : Unit) t => wPo D cI cZ (A) (([] : va_W)) t) (A)) (by decide) rfl (Nat.le_of_ble_eq_true rfl) ?_
  intro p e s m below meth c ls A Q H locs eQ hx hb hr hml hts hown hlocks hK hP hD hS hA hE hl
  have hown : s.vm.findClass RX10 = some m.cls := hown
  have hl : lv_has ls 1 [(0, .int p0)] := hl
  rw [f_X10_isPerson] at hf
  refine lv_iload_n hx hb dX10_isPerson_0 rfl (lv_at hl 0 rfl) ?_
  refine lv_if_lt (tgt := 14) hx hb dX10_isPerson_1 (by decide) (fun c1 => ?_) (fun c1 => ?_)
  · have hf := (if_pos c1).symm.trans hf
    refine lv_iconst (v := 0) hx hb dX10_isPerson_14 (by decide) ?_
    exact k_zret (v := (0 : Int32)) (u := ()) hx hb hr hlocks hK hS eQ (by decide) hf hP hD dX10_isPerson_15
  · have hf := (if_neg c1).symm.trans hf
    refine lv_iload_n hx hb dX10_isPerson_4 rfl (lv_at hl 0 rfl) ?_
    refine lv_bipush (v := 8) hx hb dX10_isPerson_5 (by decide) ?_
    refine lv_icmp_ge (tgt := 14) hx hb dX10_isPerson_7 (by decide) (fun c2 => ?_) (fun c2 => ?_)
    · have hf := (if_pos c2).symm.trans hf
      refine lv_iconst (v := 0) hx hb dX10_isPerson_14 (by decide) ?_
      exact k_zret (v := (0 : Int32)) (u := ()) hx hb hr hlocks hK hS eQ (by decide) hf hP hD dX10_isPerson_15
    · have hf := (if_neg c2).symm.trans hf
      refine lv_iconst (v := 1) hx hb dX10_isPerson_10 (by decide) ?_
      refine lv_goto (tgt := 15) hx hb dX10_isPerson_11 (by decide) ?_
      exact k_zret (v := (1 : Int32)) (u := ()) hx hb hr hlocks hK hS eQ (by decide) hf hP hD dX10_isPerson_15
theorem hd_X10_isCar : yX10_isCar.cls ≠ "java/lang/invoke/MethodHandle" ∧ yX10_isCar.cls ≠ "java/lang/invoke/VarHandle" ∧ (parseMethodDescriptor yX10_isCar.desc).map (fun d => d.parameters.length) = some 1 := by decide +kernel
set_option maxHeartbeats 4000000 in
set_option maxRecDepth 100000 in
theorem c_X10_isCar (l : Launch) (D : va_G) (cI cZ : ClassId) (sz : Nat) (p0 : Int32) (z : Int32 × Unit) (hf : f_X10_isCar p0 = some z) : Met l yX10_isCar wsX10_isCar rmX10_isCar (va_Pc [.int p0] (wPr D cI cZ (([] : va_W)) sz)) (va_Qi (fun (r : Int32) (v : Unit) => (r, v) = z) (fun (v : Unit) t => wPo D cI cZ (va_A (([] : va_W)) sz) (([] : va_W)) t) (va_A (([] : va_W)) sz)) 0 0 (va_A (([] : va_W)) sz) := by
  refine k_enter (D := D) (cI := cI) (cZ := cZ) (wl := ([] : va_W)) (sz := sz) (av := [.int p0]) (cc := cX10_isCar) (maxL := 1) (ret := (some .boolean)) (Qc := fun A => va_Qi (fun (r : Int32) (v : Unit) => (r, v) = z) (fun (v : Unit) t => wPo D cI cZ (A) (([] : va_W)) t) (A)) (by decide) rfl (Nat.le_of_ble_eq_true rfl) ?_
  intro p e s m below meth c ls A Q H locs eQ hx hb hr hml hts hown hlocks hK hP hD hS hA hE hl
  have hown : s.vm.findClass RX10 = some m.cls := hown
  have hl : lv_has ls 1 [(0, .int p0)] := hl
  rw [f_X10_isCar] at hf
  refine lv_iload_n hx hb dX10_isCar_0 rfl (lv_at hl 0 rfl) ?_
  refine lv_if_lt (tgt := 14) hx hb dX10_isCar_1 (by decide) (fun c1 => ?_) (fun c1 => ?_)
  · have hf := (if_pos c1).symm.trans hf
    refine lv_iconst (v := 0) hx hb dX10_isCar_14 (by decide) ?_
    exact k_zret (v := (0 : Int32)) (u := ()) hx hb hr hlocks hK hS eQ (by decide) hf hP hD dX10_isCar_15
  · have hf := (if_neg c1).symm.trans hf
    refine lv_iload_n hx hb dX10_isCar_4 rfl (lv_at hl 0 rfl) ?_
    refine lv_bipush (v := 8) hx hb dX10_isCar_5 (by decide) ?_
    refine lv_icmp_ge (tgt := 14) hx hb dX10_isCar_7 (by decide) (fun c2 => ?_) (fun c2 => ?_)
    · have hf := (if_pos c2).symm.trans hf
      refine lv_iconst (v := 0) hx hb dX10_isCar_14 (by decide) ?_
      exact k_zret (v := (0 : Int32)) (u := ()) hx hb hr hlocks hK hS eQ (by decide) hf hP hD dX10_isCar_15
    · have hf := (if_neg c2).symm.trans hf
      refine lv_iconst (v := 1) hx hb dX10_isCar_10 (by decide) ?_
      refine lv_goto (tgt := 15) hx hb dX10_isCar_11 (by decide) ?_
      exact k_zret (v := (1 : Int32)) (u := ()) hx hb hr hlocks hK hS eQ (by decide) hf hP hD dX10_isCar_15
theorem hd_X10_isOf : yX10_isOf.cls ≠ "java/lang/invoke/MethodHandle" ∧ yX10_isOf.cls ≠ "java/lang/invoke/VarHandle" ∧ (parseMethodDescriptor yX10_isOf.desc).map (fun d => d.parameters.length) = some 2 := by decide +kernel
set_option maxHeartbeats 4000000 in
set_option maxRecDepth 100000 in
theorem c_X10_isOf (l : Launch) (D : va_G) (cI cZ : ClassId) (sz : Nat) (p0 : Int32) (p1 : Int32) (z : Int32 × Unit) (hf : f_X10_isOf p0 p1 = some z) : Met l yX10_isOf wsX10_isOf rmX10_isOf (va_Pc [.int p0, .int p1] (wPr D cI cZ (([] : va_W)) sz)) (va_Qi (fun (r : Int32) (v : Unit) => (r, v) = z) (fun (v : Unit) t => wPo D cI cZ (va_A (([] : va_W)) sz) (([] : va_W)) t) (va_A (([] : va_W)) sz)) 0 0 (va_A (([] : va_W)) sz) := by
  refine k_enter (D := D) (cI := cI) (cZ := cZ) (wl := ([] : va_W)) (sz := sz) (av := [.int p0, .int p1]) (cc := cX10_isOf) (maxL := 2) (ret := (some .boolean)) (Qc := fun A => va_Qi (fun (r : Int32) (v : Unit) => (r, v) = z) (fun (v : Unit) t => wPo D cI cZ (A) (([] : va_W)) t) (A)) (by decide) rfl (Nat.le_of_ble_eq_true rfl) ?_
  intro p e s m below meth c ls A Q H locs eQ hx hb hr hml hts hown hlocks hK hP hD hS hA hE hl
  have hown : s.vm.findClass RX10 = some m.cls := hown
  have hl : lv_has ls 2 [(0, .int p0), (1, .int p1)] := hl
  rw [f_X10_isOf] at hf
  refine lv_iload_n hx hb dX10_isOf_0 rfl (lv_at hl 0 rfl) ?_
  refine lv_iload_n hx hb dX10_isOf_1 rfl (lv_at hl 1 rfl) ?_
  refine lv_ishr hx hb dX10_isOf_2 ?_
  refine lv_iconst (v := 1) hx hb dX10_isOf_3 (by decide) ?_
  refine lv_iand hx hb dX10_isOf_4 ?_
  refine lv_iconst (v := 1) hx hb dX10_isOf_5 (by decide) ?_
  refine lv_icmp_ne (tgt := 13) hx hb dX10_isOf_6 (by decide) (fun c1 => ?_) (fun c1 => ?_)
  · have hf := (if_neg c1).symm.trans hf
    refine lv_iconst (v := 0) hx hb dX10_isOf_13 (by decide) ?_
    exact k_zret (v := (0 : Int32)) (u := ()) hx hb hr hlocks hK hS eQ (by decide) hf hP hD dX10_isOf_14
  · have hf := (if_pos c1).symm.trans hf
    refine lv_iconst (v := 1) hx hb dX10_isOf_9 (by decide) ?_
    refine lv_goto (tgt := 14) hx hb dX10_isOf_10 (by decide) ?_
    exact k_zret (v := (1 : Int32)) (u := ()) hx hb hr hlocks hK hS eQ (by decide) hf hP hD dX10_isOf_14
theorem hd_X10_copyRow : yX10_copyRow.cls ≠ "java/lang/invoke/MethodHandle" ∧ yX10_copyRow.cls ≠ "java/lang/invoke/VarHandle" ∧ (parseMethodDescriptor yX10_copyRow.desc).map (fun d => d.parameters.length) = some 2 := by decide +kernel
set_option maxHeartbeats 4000000 in
set_option maxRecDepth 100000 in
theorem c_X10_copyRow (l : Launch) (D : va_G) (cI cZ : ClassId) (r00 : Nat) (r10 : Nat) (sz : Nat) (n_r0 : Nat) (n_r1 : Nat) (u_r0 : Fn) (u_r1 : Fn) (z : Fn) (hf : f_X10_copyRow n_r0 n_r1 u_r0 u_r1 = some z) : Met l yX10_copyRow wsX10_copyRow rmX10_copyRow (va_Pc [.ref r00, .ref r10] (wPr D cI cZ (ceA cI r00 n_r0 u_r0 ++ (ceA cI r10 n_r1 u_r1)) sz)) (va_Qv (fun (v : Fn) => v = z) (fun (v : Fn) t => wPo D cI cZ (va_A (ceA cI r00 n_r0 u_r0 ++ (ceA cI r10 n_r1 u_r1)) sz) (ceA cI r00 n_r0 u_r0 ++ (ceA cI r10 n_r1 v)) t) (va_A (ceA cI r00 n_r0 u_r0 ++ (ceA cI r10 n_r1 u_r1)) sz)) 0 0 (va_A (ceA cI r00 n_r0 u_r0 ++ (ceA cI r10 n_r1 u_r1)) sz) := by
  refine k_enter (D := D) (cI := cI) (cZ := cZ) (wl := ceA cI r00 n_r0 u_r0 ++ (ceA cI r10 n_r1 u_r1)) (sz := sz) (av := [.ref r00, .ref r10]) (cc := cX10_copyRow) (maxL := 2) (ret := none) (Qc := fun A => va_Qv (fun (v : Fn) => v = z) (fun (v : Fn) t => wPo D cI cZ (A) (ceA cI r00 n_r0 u_r0 ++ (ceA cI r10 n_r1 v)) t) (A)) (by decide) rfl (Nat.le_of_ble_eq_true rfl) ?_
  intro p e s m below meth c ls A Q H locs eQ hx hb hr hml hts hown hlocks hK hP hD hS hA hE hl
  have hown : s.vm.findClass RX10 = some m.cls := hown
  have hl : lv_has ls 2 [(0, .ref r00), (1, .ref r10)] := hl
  rw [f_X10_copyRow] at hf
  refine lv_aload_n hx hb dX10_copyRow_0 rfl (lv_at hl 0 rfl) ?_
  refine lv_iconst (v := 0) hx hb dX10_copyRow_1 (by decide) ?_
  refine lv_aload_n hx hb dX10_copyRow_2 rfl (lv_at hl 1 rfl) ?_
  refine lv_iconst (v := 0) hx hb dX10_copyRow_3 (by decide) ?_
  refine lv_aload_n hx hb dX10_copyRow_4 rfl (lv_at hl 0 rfl) ?_
  refine va_alen hx hb hK hP 0 0 rfl rfl (v := (Int32.ofNat n_r0)) rfl dX10_copyRow_5 ?_
  refine lv_aload_n hx hb dX10_copyRow_6 rfl (lv_at hl 1 rfl) ?_
  refine va_alen hx hb hK hP 1 0 rfl rfl (v := (Int32.ofNat n_r1)) rfl dX10_copyRow_7 ?_
  refine va_mmin hx hb (hml.trans hl.1.symm) hown (hts (.methodLink RX10 257 Lib.Math.min.name) (List.mem_of_getElem? (i := 1) rfl)) (hts (.static Lib.Math.min.name) (List.mem_of_getElem? (i := 2) rfl)) (hts (.initialized "java/lang/Math") (List.mem_of_getElem? (i := 3) rfl)) (hts (.code Lib.Math.min.name Lib.Math.min.code 2 (some .int)) (List.mem_of_getElem? (i := 4) rfl)) (Nat.le_of_ble_eq_true rfl) (Nat.le_of_ble_eq_true rfl) (Nat.zero_le _) (Nat.zero_le _) dX10_copyRow_8 ?_
  by_cases c1 : (if (Int32.ofNat n_r1) < (Int32.ofNat n_r0) then (Int32.ofNat n_r1) else (Int32.ofNat n_r0)) < 0 ∨ n_r0 < (if (Int32.ofNat n_r1) < (Int32.ofNat n_r0) then (Int32.ofNat n_r1) else (Int32.ofNat n_r0)).toNatClampNeg ∨ n_r1 < (if (Int32.ofNat n_r1) < (Int32.ofNat n_r0) then (Int32.ofNat n_r1) else (Int32.ofNat n_r0)).toNatClampNeg
  · have hf := (if_pos c1).symm.trans hf
    cases hf
  have hf := (if_neg c1).symm.trans hf
  have hc1 : ¬ (if (Int32.ofNat n_r1) < (Int32.ofNat n_r0) then (Int32.ofNat n_r1) else (Int32.ofNat n_r0)) < 0 := fun h => c1 (Or.inl h)
  have hc2 : (0 : Int32).toNatClampNeg + (if (Int32.ofNat n_r1) < (Int32.ofNat n_r0) then (Int32.ofNat n_r1) else (Int32.ofNat n_r0)).toNatClampNeg ≤ n_r0 := by show 0 + _ ≤ _; rw [Nat.zero_add]; exact Nat.not_lt.mp fun h => c1 (Or.inr (Or.inl h))
  have hc3 : (0 : Int32).toNatClampNeg + (if (Int32.ofNat n_r1) < (Int32.ofNat n_r0) then (Int32.ofNat n_r1) else (Int32.ofNat n_r0)).toNatClampNeg ≤ n_r1 := by show 0 + _ ≤ _; rw [Nat.zero_add]; exact Nat.not_lt.mp fun h => c1 (Or.inr (Or.inr h))
  refine va_copyi hx hb (hml.trans hl.1.symm) hown (hts (.methodLink RX10 262 arraycopyName) (List.mem_of_getElem? (i := 5) rfl)) (hts (.native arraycopyName) (List.mem_of_getElem? (i := 6) rfl)) (hts (.static arraycopyName) (List.mem_of_getElem? (i := 7) rfl)) (hts (.initialized "java/lang/System") (List.mem_of_getElem? (i := 8) rfl)) hK hP hD hS 0 1 0 0 rfl rfl rfl rfl rfl (by decide) (by decide) hc1 hc2 hc3 (fun i _ => rfl) (Nat.le_of_ble_eq_true rfl) (Nat.le_of_ble_eq_true rfl) dX10_copyRow_11 (fun H locs hP hD hS => ?_)
  have hP : va_P D vwCl (ceA cI r00 n_r0 u_r0 ++ (ceA cI r10 n_r1 (va_cpy u_r0 u_r1 0 0 (if (Int32.ofNat n_r1) < (Int32.ofNat n_r0) then (Int32.ofNat n_r1) else (Int32.ofNat n_r0)).toNatClampNeg))) H := hP
  have hD : va_D A (ceA cI r00 n_r0 u_r0 ++ (ceA cI r10 n_r1 (va_cpy u_r0 u_r1 0 0 (if (Int32.ofNat n_r1) < (Int32.ofNat n_r0) then (Int32.ofNat n_r1) else (Int32.ofNat n_r0)).toNatClampNeg))) := hD
  exact k_vret (u := (va_cpy u_r0 u_r1 0 0 (if (Int32.ofNat n_r1) < (Int32.ofNat n_r0) then (Int32.ofNat n_r1) else (Int32.ofNat n_r0)).toNatClampNeg)) hx hb hr hlocks hK hS eQ hf hP hD dX10_copyRow_14
theorem hd_X10_greatestDivisor : yX10_greatestDivisor.cls ≠ "java/lang/invoke/MethodHandle" ∧ yX10_greatestDivisor.cls ≠ "java/lang/invoke/VarHandle" ∧ (parseMethodDescriptor yX10_greatestDivisor.desc).map (fun d => d.parameters.length) = some 2 := by decide +kernel
set_option maxHeartbeats 4000000 in
set_option maxRecDepth 100000 in
theorem c_X10_greatestDivisor (l : Launch) (D : va_G) (cI cZ : ClassId) (sz : Nat) (p0 : Int64) (p2 : Int64) (z : Int64 × Unit) (hf : f_X10_greatestDivisor p0 p2 = some z) : Met l yX10_greatestDivisor wsX10_greatestDivisor rmX10_greatestDivisor (va_Pc [.long p0, .long p2] (wPr D cI cZ (([] : va_W)) sz)) (va_Ql (fun (r : Int64) (v : Unit) => (r, v) = z) (fun (v : Unit) t => wPo D cI cZ (va_A (([] : va_W)) sz) (([] : va_W)) t) (va_A (([] : va_W)) sz)) 0 0 (va_A (([] : va_W)) sz) := by
  refine k_enter (D := D) (cI := cI) (cZ := cZ) (wl := ([] : va_W)) (sz := sz) (av := [.long p0, .long p2]) (cc := cX10_greatestDivisor) (maxL := 11) (ret := (some .long)) (Qc := fun A => va_Ql (fun (r : Int64) (v : Unit) => (r, v) = z) (fun (v : Unit) t => wPo D cI cZ (A) (([] : va_W)) t) (A)) (by decide) rfl (Nat.le_of_ble_eq_true rfl) ?_
  intro p e s m below meth c ls A Q H locs eQ hx hb hr hml hts hown hlocks hK hP hD hS hA hE hl
  have hown : s.vm.findClass RX10 = some m.cls := hown
  have hl : lv_has ls 11 [(0, .long p0), (2, .long p2)] := hl
  have hL9 : ∀ (n : Nat), ∀ (v4 : Int64) (v6 : Int64) (v8 : Int32) (H : Heap) (locs : List Loc) (ls : Array Slot), lv_has ls 11 [(4, .long v4), (6, .long v6), (8, .int v8)] → va_P D vwCl (([] : va_W)) H → va_D A (([] : va_W)) → va_S A s.heap H locs → f_X10_greatestDivisor_L9 n v4 v6 v8 = some z → W p l e (headSpec wsX10_greatestDivisor rmX10_greatestDivisor).room s m ([.long p0, .long p2] : List Value).toArray below meth c H locs 0 0 Q (F0 m 9 ls []) := by
    intro n
    induction n with
    | zero =>
      intro v4 v6 v8 H locs ls hl hP hD hS hf
      exact absurd (show (none : Option (Int64 × Unit)) = some z from hf) (fun h => by cases h)
    | succ n ih =>
      intro v4 v6 v8 H locs ls hl hP hD hS hf
      rw [f_X10_greatestDivisor_L9] at hf
      refine lv_iload hx hb dX10_greatestDivisor_9 (lv_at hl 2 rfl) ?_
      refine lv_sipush (v := 128) hx hb dX10_greatestDivisor_11 (by decide) ?_
      refine lv_icmp_ge (tgt := 45) hx hb dX10_greatestDivisor_14 (by decide) (fun c1 => ?_) (fun c1 => ?_)
      · have hf := (if_pos c1).symm.trans hf
        refine lv_lload hx hb dX10_greatestDivisor_45 (lv_at hl 0 rfl) ?_
        exact k_lret (v := v4) (u := ()) hx hb hr hlocks hK hS eQ hf hP hD dX10_greatestDivisor_47
      · have hf := (if_neg c1).symm.trans hf
        refine lv_lload hx hb dX10_greatestDivisor_17 (lv_at hl 1 rfl) ?_
        refine lv_lconst (v := 0) hx hb dX10_greatestDivisor_19 (by decide) ?_
        refine W.lcmp hx hb dX10_greatestDivisor_20 ?_
        refine lv_if_eq (tgt := 45) hx hb dX10_greatestDivisor_21 (by decide) (fun c2 => ?_) (fun c2 => ?_)
        · have hf := (if_pos c2).symm.trans hf
          refine lv_lload hx hb dX10_greatestDivisor_45 (lv_at hl 0 rfl) ?_
          exact k_lret (v := v4) (u := ()) hx hb hr hlocks hK hS eQ hf hP hD dX10_greatestDivisor_47
        · have hf := (if_neg c2).symm.trans hf
          refine lv_lload hx hb dX10_greatestDivisor_24 (lv_at hl 0 rfl) ?_
          refine lv_lload hx hb dX10_greatestDivisor_26 (lv_at hl 1 rfl) ?_
          by_cases c3 : v6 = 0
          · have hf := (if_pos c3).symm.trans hf
            cases hf
          have hf := (if_neg c3).symm.trans hf
          refine lv_lrem hx hb dX10_greatestDivisor_28 c3 ?_
          refine lv_lstore (lv' := [(9, .long (v4 - v4 / v6 * v6)), (4, .long v4), (6, .long v6), (8, .int v8)]) hx hb dX10_greatestDivisor_29 hl (by decide) rfl (fun ls hl => ?_)
          refine lv_lload hx hb dX10_greatestDivisor_31 (lv_at hl 2 rfl) ?_
          refine lv_lstore (lv' := [(4, .long v6), (9, .long (v4 - v4 / v6 * v6)), (6, .long v6), (8, .int v8)]) hx hb dX10_greatestDivisor_33 hl (by decide) rfl (fun ls hl => ?_)
          refine lv_lload hx hb dX10_greatestDivisor_35 (lv_at hl 1 rfl) ?_
          refine lv_lstore (lv' := [(6, .long (v4 - v4 / v6 * v6)), (4, .long v6), (9, .long (v4 - v4 / v6 * v6)), (8, .int v8)]) hx hb dX10_greatestDivisor_37 hl (by decide) rfl (fun ls hl => ?_)
          refine lv_iinc (v := (v8 + (1 : Int32))) (lv' := [(8, .int (v8 + (1 : Int32))), (6, .long (v4 - v4 / v6 * v6)), (4, .long v6), (9, .long (v4 - v4 / v6 * v6))]) hx hb dX10_greatestDivisor_39 hl (k := 3) rfl rfl (by decide) rfl (fun ls hl => ?_)
          refine lv_goto (tgt := 9) hx hb dX10_greatestDivisor_42 (by decide) ?_
          exact ih v6 (v4 - v4 / v6 * v6) (v8 + (1 : Int32)) _ _ ls (lv_sub hl [2, 1, 0] rfl) hP hD hS hf
  rw [f_X10_greatestDivisor] at hf
  refine lv_lload_n hx hb dX10_greatestDivisor_0 rfl (lv_at hl 0 rfl) ?_
  refine lv_lstore (lv' := [(4, .long p0), (0, .long p0), (2, .long p2)]) hx hb dX10_greatestDivisor_1 hl (by decide) rfl (fun ls hl => ?_)
  refine lv_lload_n hx hb dX10_greatestDivisor_3 rfl (lv_at hl 2 rfl) ?_
  refine lv_lstore (lv' := [(6, .long p2), (4, .long p0), (0, .long p0), (2, .long p2)]) hx hb dX10_greatestDivisor_4 hl (by decide) rfl (fun ls hl => ?_)
  refine lv_iconst (v := 0) hx hb dX10_greatestDivisor_6 (by decide) ?_
  refine lv_istore (lv' := [(8, .int (0 : Int32)), (6, .long p2), (4, .long p0), (0, .long p0), (2, .long p2)]) hx hb dX10_greatestDivisor_7 hl (by decide) rfl (fun ls hl => ?_)
  exact hL9 oF p0 p2 (0 : Int32) _ _ ls (lv_sub hl [2, 1, 0] rfl) hP hD hS hf
theorem hd_J9_floorMod_7cf53 : yJ9_floorMod_7cf53.cls ≠ "java/lang/invoke/MethodHandle" ∧ yJ9_floorMod_7cf53.cls ≠ "java/lang/invoke/VarHandle" ∧ (parseMethodDescriptor yJ9_floorMod_7cf53.desc).map (fun d => d.parameters.length) = some 2 := by decide +kernel
set_option maxHeartbeats 4000000 in
set_option maxRecDepth 100000 in
theorem c_J9_floorMod_7cf53 (l : Launch) (D : va_G) (cI cZ : ClassId) (sz : Nat) (p0 : Int32) (p1 : Int32) (z : Int32 × Unit) (hf : f_J9_floorMod_7cf53 p0 p1 = some z) : Met l yJ9_floorMod_7cf53 wsJ9_floorMod_7cf53 rmJ9_floorMod_7cf53 (va_Pc [.int p0, .int p1] (wPr D cI cZ (([] : va_W)) sz)) (va_Qi (fun (r : Int32) (v : Unit) => (r, v) = z) (fun (v : Unit) t => wPo D cI cZ (va_A (([] : va_W)) sz) (([] : va_W)) t) (va_A (([] : va_W)) sz)) 0 0 (va_A (([] : va_W)) sz) := by
  refine k_enterF (D := D) (cI := cI) (cZ := cZ) (wl := ([] : va_W)) (sz := sz) (av := [.int p0, .int p1]) (cc := cJ9_floorMod_7cf53) (maxL := 3) (ret := (some .int)) (Qc := fun A => va_Qi (fun (r : Int32) (v : Unit) => (r, v) = z) (fun (v : Unit) t => wPo D cI cZ (A) (([] : va_W)) t) (A)) (by decide +kernel) rfl (Nat.le_of_ble_eq_true rfl) ?_
  intro p e s m below meth c ls A Q H locs eQ hx hb hr hml hts hown hlocks hK hP hD hS hA hE hl
  have hown : s.vm.findClass RJ9 = some m.cls := hown
  have hl : lv_has ls 3 [(0, .int p0), (1, .int p1)] := hl
  rw [f_J9_floorMod_7cf53] at hf
  refine lv_iload_n hx hb dJ9_floorMod_7cf53_0 rfl (lv_at hl 0 rfl) ?_
  refine lv_iload_n hx hb dJ9_floorMod_7cf53_1 rfl (lv_at hl 1 rfl) ?_
  by_cases c1 : p1 = 0
  · have hf := (if_pos c1).symm.trans hf
    cases hf
  have hf := (if_neg c1).symm.trans hf
  refine lv_irem hx hb dJ9_floorMod_7cf53_2 c1 ?_
  refine lv_istore_n (lv' := [(2, .int (p0 - p0 / p1 * p1)), (0, .int p0), (1, .int p1)]) hx hb dJ9_floorMod_7cf53_3 rfl hl (by decide) rfl (fun ls hl => ?_)
  refine lv_iload_n hx hb dJ9_floorMod_7cf53_4 rfl (lv_at hl 1 rfl) ?_
  refine lv_iload_n hx hb dJ9_floorMod_7cf53_5 rfl (lv_at hl 2 rfl) ?_
  refine lv_ixor hx hb dJ9_floorMod_7cf53_6 ?_
  refine lv_if_ge (tgt := 18) hx hb dJ9_floorMod_7cf53_7 (by decide) (fun c2 => ?_) (fun c2 => ?_)
  · have hf := (if_pos c2).symm.trans hf
    refine lv_iload_n hx hb dJ9_floorMod_7cf53_18 rfl (lv_at hl 0 rfl) ?_
    exact k_iret (v := (p0 - p0 / p1 * p1)) (u := ()) hx hb hr hlocks hK hS eQ hf hP hD dJ9_floorMod_7cf53_19
  · have hf := (if_neg c2).symm.trans hf
    refine lv_iload_n hx hb dJ9_floorMod_7cf53_10 rfl (lv_at hl 0 rfl) ?_
    refine lv_if_eq (tgt := 18) hx hb dJ9_floorMod_7cf53_11 (by decide) (fun c3 => ?_) (fun c3 => ?_)
    · have hf := (if_pos c3).symm.trans hf
      refine lv_iload_n hx hb dJ9_floorMod_7cf53_18 rfl (lv_at hl 0 rfl) ?_
      exact k_iret (v := (p0 - p0 / p1 * p1)) (u := ()) hx hb hr hlocks hK hS eQ hf hP hD dJ9_floorMod_7cf53_19
    · have hf := (if_neg c3).symm.trans hf
      refine lv_iload_n hx hb dJ9_floorMod_7cf53_14 rfl (lv_at hl 0 rfl) ?_
      refine lv_iload_n hx hb dJ9_floorMod_7cf53_15 rfl (lv_at hl 2 rfl) ?_
      refine lv_iadd hx hb dJ9_floorMod_7cf53_16 ?_
      exact k_iret (v := ((p0 - p0 / p1 * p1) + p1)) (u := ()) hx hb hr hlocks hK hS eQ hf hP hD dJ9_floorMod_7cf53_17
theorem hd_J7_fill_53178 : yJ7_fill_53178.cls ≠ "java/lang/invoke/MethodHandle" ∧ yJ7_fill_53178.cls ≠ "java/lang/invoke/VarHandle" ∧ (parseMethodDescriptor yJ7_fill_53178.desc).map (fun d => d.parameters.length) = some 2 := by decide +kernel
set_option maxHeartbeats 4000000 in
set_option maxRecDepth 100000 in
theorem c_J7_fill_53178 (l : Launch) (D : va_G) (cI cZ : ClassId) (r00 : Nat) (sz : Nat) (n_r0 : Nat) (u_r0 : Fn) (p1 : Int32) (z : Fn) (hf : f_J7_fill_53178 n_r0 u_r0 p1 = some z) : Met l yJ7_fill_53178 wsJ7_fill_53178 rmJ7_fill_53178 (va_Pc [.ref r00, .int p1] (wPr D cI cZ (ceA cI r00 n_r0 u_r0) sz)) (va_Qv (fun (v : Fn) => v = z) (fun (v : Fn) t => wPo D cI cZ (va_A (ceA cI r00 n_r0 u_r0) sz) (ceA cI r00 n_r0 v) t) (va_A (ceA cI r00 n_r0 u_r0) sz)) 0 0 (va_A (ceA cI r00 n_r0 u_r0) sz) := by
  refine k_enter (D := D) (cI := cI) (cZ := cZ) (wl := ceA cI r00 n_r0 u_r0) (sz := sz) (av := [.ref r00, .int p1]) (cc := cJ7_fill_53178) (maxL := 4) (ret := none) (Qc := fun A => va_Qv (fun (v : Fn) => v = z) (fun (v : Fn) t => wPo D cI cZ (A) (ceA cI r00 n_r0 v) t) (A)) (by decide) rfl (Nat.le_of_ble_eq_true rfl) ?_
  intro p e s m below meth c ls A Q H locs eQ hx hb hr hml hts hown hlocks hK hP hD hS hA hE hl
  have hown : s.vm.findClass RJ7 = some m.cls := hown
  have hl : lv_has ls 4 [(0, .ref r00), (1, .int p1)] := hl
  have hL5 : ∀ (n : Nat), ∀ (v1 : Int32) (v2 : Int32) (v3 : Int32) (u_r0 : Fn) (H : Heap) (locs : List Loc) (ls : Array Slot), lv_has ls 4 [(0, .ref r00), (1, .int v1), (2, .int v2), (3, .int v3)] → va_P D vwCl (ceA cI r00 n_r0 u_r0) H → va_D A (ceA cI r00 n_r0 u_r0) → va_S A s.heap H locs → f_J7_fill_53178_L5 n_r0 n v1 v2 v3 u_r0 = some z → W p l e (headSpec wsJ7_fill_53178 rmJ7_fill_53178).room s m ([.ref r00, .int p1] : List Value).toArray below meth c H locs 0 0 Q (F0 m 5 ls []) := by
    intro n
    induction n with
    | zero =>
      intro v1 v2 v3 u_r0 H locs ls hl hP hD hS hf
      exact absurd (show (none : Option (Fn)) = some z from hf) (fun h => by cases h)
    | succ n ih =>
      intro v1 v2 v3 u_r0 H locs ls hl hP hD hS hf
      rw [f_J7_fill_53178_L5] at hf
      refine lv_iload_n hx hb dJ7_fill_53178_5 rfl (lv_at hl 2 rfl) ?_
      refine lv_iload_n hx hb dJ7_fill_53178_6 rfl (lv_at hl 3 rfl) ?_
      refine lv_icmp_ge (tgt := 20) hx hb dJ7_fill_53178_7 (by decide) (fun c1 => ?_) (fun c1 => ?_)
      · have hf := (if_pos c1).symm.trans hf
        exact k_vret (u := u_r0) hx hb hr hlocks hK hS eQ hf hP hD dJ7_fill_53178_20
      · have hf := (if_neg c1).symm.trans hf
        refine lv_aload_n hx hb dJ7_fill_53178_10 rfl (lv_at hl 0 rfl) ?_
        refine lv_iload_n hx hb dJ7_fill_53178_11 rfl (lv_at hl 2 rfl) ?_
        refine lv_iload_n hx hb dJ7_fill_53178_12 rfl (lv_at hl 1 rfl) ?_
        by_cases c2 : v2 < 0 ∨ n_r0 ≤ v2.toNatClampNeg
        · have hf := (if_pos c2).symm.trans hf
          cases hf
        have hf := (if_neg c2).symm.trans hf
        refine va_iast hx hb hK hP hD hS 0 0 rfl rfl (show vp_in v2 n_r0 from c2) dJ7_fill_53178_13 (fun H locs hP hD hS => ?_)
        have hP : va_P D vwCl (ceA cI r00 n_r0 (upd u_r0 v2.toNatClampNeg v1)) H := hP
        have hD : va_D A (ceA cI r00 n_r0 (upd u_r0 v2.toNatClampNeg v1)) := hD
        refine lv_iinc (v := (v2 + (1 : Int32))) (lv' := [(2, .int (v2 + (1 : Int32))), (0, .ref r00), (1, .int v1), (3, .int v3)]) hx hb dJ7_fill_53178_14 hl (k := 2) rfl rfl (by decide) rfl (fun ls hl => ?_)
        refine lv_goto (tgt := 5) hx hb dJ7_fill_53178_17 (by decide) ?_
        exact ih v1 (v2 + (1 : Int32)) v3 (upd u_r0 v2.toNatClampNeg v1) _ _ ls (lv_sub hl [1, 2, 0, 3] rfl) hP hD hS hf
  rw [f_J7_fill_53178] at hf
  refine lv_iconst (v := 0) hx hb dJ7_fill_53178_0 (by decide) ?_
  refine lv_istore_n (lv' := [(2, .int (0 : Int32)), (0, .ref r00), (1, .int p1)]) hx hb dJ7_fill_53178_1 rfl hl (by decide) rfl (fun ls hl => ?_)
  refine lv_aload_n hx hb dJ7_fill_53178_2 rfl (lv_at hl 1 rfl) ?_
  refine va_alen hx hb hK hP 0 0 rfl rfl (v := (Int32.ofNat n_r0)) rfl dJ7_fill_53178_3 ?_
  refine lv_istore_n (lv' := [(3, .int (Int32.ofNat n_r0)), (2, .int (0 : Int32)), (0, .ref r00), (1, .int p1)]) hx hb dJ7_fill_53178_4 rfl hl (by decide) rfl (fun ls hl => ?_)
  exact hL5 oF p1 (0 : Int32) (Int32.ofNat n_r0) u_r0 _ _ ls (lv_sub hl [2, 3, 1, 0] rfl) hP hD hS hf
theorem hd_J6_bitCount_0f7a4 : yJ6_bitCount_0f7a4.cls ≠ "java/lang/invoke/MethodHandle" ∧ yJ6_bitCount_0f7a4.cls ≠ "java/lang/invoke/VarHandle" ∧ (parseMethodDescriptor yJ6_bitCount_0f7a4.desc).map (fun d => d.parameters.length) = some 1 := by decide +kernel
set_option maxHeartbeats 4000000 in
set_option maxRecDepth 100000 in
theorem c_J6_bitCount_0f7a4 (l : Launch) (D : va_G) (cI cZ : ClassId) (sz : Nat) (p0 : Int32) (z : Int32 × Unit) (hf : f_J6_bitCount_0f7a4 p0 = some z) : Met l yJ6_bitCount_0f7a4 wsJ6_bitCount_0f7a4 rmJ6_bitCount_0f7a4 (va_Pc [.int p0] (wPr D cI cZ (([] : va_W)) sz)) (va_Qi (fun (r : Int32) (v : Unit) => (r, v) = z) (fun (v : Unit) t => wPo D cI cZ (va_A (([] : va_W)) sz) (([] : va_W)) t) (va_A (([] : va_W)) sz)) 0 0 (va_A (([] : va_W)) sz) := by
  refine k_enter (D := D) (cI := cI) (cZ := cZ) (wl := ([] : va_W)) (sz := sz) (av := [.int p0]) (cc := cJ6_bitCount_0f7a4) (maxL := 1) (ret := (some .int)) (Qc := fun A => va_Qi (fun (r : Int32) (v : Unit) => (r, v) = z) (fun (v : Unit) t => wPo D cI cZ (A) (([] : va_W)) t) (A)) (by decide) rfl (Nat.le_of_ble_eq_true rfl) ?_
  intro p e s m below meth c ls A Q H locs eQ hx hb hr hml hts hown hlocks hK hP hD hS hA hE hl
  have hown : s.vm.findClass RJ6 = some m.cls := hown
  have hl : lv_has ls 1 [(0, .int p0)] := hl
  rw [f_J6_bitCount_0f7a4] at hf
  refine lv_iload_n hx hb dJ6_bitCount_0f7a4_0 rfl (lv_at hl 0 rfl) ?_
  refine lv_iload_n hx hb dJ6_bitCount_0f7a4_1 rfl (lv_at hl 0 rfl) ?_
  refine lv_iconst (v := 1) hx hb dJ6_bitCount_0f7a4_2 (by decide) ?_
  refine lv_iushr hx hb dJ6_bitCount_0f7a4_3 rfl ?_
  refine lv_ldcw hx hb hown (hts (.constant RJ6 265 (1431655765)) (List.mem_of_getElem? (i := 1) rfl)) dJ6_bitCount_0f7a4_4 ?_
  refine lv_iand hx hb dJ6_bitCount_0f7a4_7 ?_
  refine lv_isub hx hb dJ6_bitCount_0f7a4_8 ?_
  refine lv_istore_n (lv' := [(0, .int (p0 - ((((p0).toUInt32 >>> (((1 : Int32)).toUInt32 &&& Int32.toUInt32 31)).toInt32) &&& (1431655765 : Int32))))]) hx hb dJ6_bitCount_0f7a4_9 rfl hl (by decide) rfl (fun ls hl => ?_)
  refine lv_iload_n hx hb dJ6_bitCount_0f7a4_10 rfl (lv_at hl 0 rfl) ?_
  refine lv_ldcw hx hb hown (hts (.constant RJ6 266 (858993459)) (List.mem_of_getElem? (i := 2) rfl)) dJ6_bitCount_0f7a4_11 ?_
  refine lv_iand hx hb dJ6_bitCount_0f7a4_14 ?_
  refine lv_iload_n hx hb dJ6_bitCount_0f7a4_15 rfl (lv_at hl 0 rfl) ?_
  refine lv_iconst (v := 2) hx hb dJ6_bitCount_0f7a4_16 (by decide) ?_
  refine lv_iushr hx hb dJ6_bitCount_0f7a4_17 rfl ?_
  refine lv_ldcw hx hb hown (hts (.constant RJ6 266 (858993459)) (List.mem_of_getElem? (i := 2) rfl)) dJ6_bitCount_0f7a4_18 ?_
  refine lv_iand hx hb dJ6_bitCount_0f7a4_21 ?_
  refine lv_iadd hx hb dJ6_bitCount_0f7a4_22 ?_
  refine lv_istore_n (lv' := [(0, .int (((p0 - ((((p0).toUInt32 >>> (((1 : Int32)).toUInt32 &&& Int32.toUInt32 31)).toInt32) &&& (1431655765 : Int32))) &&& (858993459 : Int32)) + (((((p0 - ((((p0).toUInt32 >>> (((1 : Int32)).toUInt32 &&& Int32.toUInt32 31)).toInt32) &&& (1431655765 : Int32)))).toUInt32 >>> (((2 : Int32)).toUInt32 &&& Int32.toUInt32 31)).toInt32) &&& (858993459 : Int32))))]) hx hb dJ6_bitCount_0f7a4_23 rfl hl (by decide) rfl (fun ls hl => ?_)
  refine lv_iload_n hx hb dJ6_bitCount_0f7a4_24 rfl (lv_at hl 0 rfl) ?_
  refine lv_iload_n hx hb dJ6_bitCount_0f7a4_25 rfl (lv_at hl 0 rfl) ?_
  refine lv_iconst (v := 4) hx hb dJ6_bitCount_0f7a4_26 (by decide) ?_
  refine lv_iushr hx hb dJ6_bitCount_0f7a4_27 rfl ?_
  refine lv_iadd hx hb dJ6_bitCount_0f7a4_28 ?_
  refine lv_ldcw hx hb hown (hts (.constant RJ6 267 (252645135)) (List.mem_of_getElem? (i := 3) rfl)) dJ6_bitCount_0f7a4_29 ?_
  refine lv_iand hx hb dJ6_bitCount_0f7a4_32 ?_
  refine lv_istore_n (lv' := [(0, .int (((((p0 - ((((p0).toUInt32 >>> (((1 : Int32)).toUInt32 &&& Int32.toUInt32 31)).toInt32) &&& (1431655765 : Int32))) &&& (858993459 : Int32)) + (((((p0 - ((((p0).toUInt32 >>> (((1 : Int32)).toUInt32 &&& Int32.toUInt32 31)).toInt32) &&& (1431655765 : Int32)))).toUInt32 >>> (((2 : Int32)).toUInt32 &&& Int32.toUInt32 31)).toInt32) &&& (858993459 : Int32))) + ((((((p0 - ((((p0).toUInt32 >>> (((1 : Int32)).toUInt32 &&& Int32.toUInt32 31)).toInt32) &&& (1431655765 : Int32))) &&& (858993459 : Int32)) + (((((p0 - ((((p0).toUInt32 >>> (((1 : Int32)).toUInt32 &&& Int32.toUInt32 31)).toInt32) &&& (1431655765 : Int32)))).toUInt32 >>> (((2 : Int32)).toUInt32 &&& Int32.toUInt32 31)).toInt32) &&& (858993459 : Int32)))).toUInt32 >>> (((4 : Int32)).toUInt32 &&& Int32.toUInt32 31)).toInt32)) &&& (252645135 : Int32)))]) hx hb dJ6_bitCount_0f7a4_33 rfl hl (by decide) rfl (fun ls hl => ?_)
  refine lv_iload_n hx hb dJ6_bitCount_0f7a4_34 rfl (lv_at hl 0 rfl) ?_
  refine lv_iload_n hx hb dJ6_bitCount_0f7a4_35 rfl (lv_at hl 0 rfl) ?_
  refine lv_bipush (v := 8) hx hb dJ6_bitCount_0f7a4_36 (by decide) ?_
  refine lv_iushr hx hb dJ6_bitCount_0f7a4_38 rfl ?_
  refine lv_iadd hx hb dJ6_bitCount_0f7a4_39 ?_
  refine lv_istore_n (lv' := [(0, .int ((((((p0 - ((((p0).toUInt32 >>> (((1 : Int32)).toUInt32 &&& Int32.toUInt32 31)).toInt32) &&& (1431655765 : Int32))) &&& (858993459 : Int32)) + (((((p0 - ((((p0).toUInt32 >>> (((1 : Int32)).toUInt32 &&& Int32.toUInt32 31)).toInt32) &&& (1431655765 : Int32)))).toUInt32 >>> (((2 : Int32)).toUInt32 &&& Int32.toUInt32 31)).toInt32) &&& (858993459 : Int32))) + ((((((p0 - ((((p0).toUInt32 >>> (((1 : Int32)).toUInt32 &&& Int32.toUInt32 31)).toInt32) &&& (1431655765 : Int32))) &&& (858993459 : Int32)) + (((((p0 - ((((p0).toUInt32 >>> (((1 : Int32)).toUInt32 &&& Int32.toUInt32 31)).toInt32) &&& (1431655765 : Int32)))).toUInt32 >>> (((2 : Int32)).toUInt32 &&& Int32.toUInt32 31)).toInt32) &&& (858993459 : Int32)))).toUInt32 >>> (((4 : Int32)).toUInt32 &&& Int32.toUInt32 31)).toInt32)) &&& (252645135 : Int32)) + ((((((((p0 - ((((p0).toUInt32 >>> (((1 : Int32)).toUInt32 &&& Int32.toUInt32 31)).toInt32) &&& (1431655765 : Int32))) &&& (858993459 : Int32)) + (((((p0 - ((((p0).toUInt32 >>> (((1 : Int32)).toUInt32 &&& Int32.toUInt32 31)).toInt32) &&& (1431655765 : Int32)))).toUInt32 >>> (((2 : Int32)).toUInt32 &&& Int32.toUInt32 31)).toInt32) &&& (858993459 : Int32))) + ((((((p0 - ((((p0).toUInt32 >>> (((1 : Int32)).toUInt32 &&& Int32.toUInt32 31)).toInt32) &&& (1431655765 : Int32))) &&& (858993459 : Int32)) + (((((p0 - ((((p0).toUInt32 >>> (((1 : Int32)).toUInt32 &&& Int32.toUInt32 31)).toInt32) &&& (1431655765 : Int32)))).toUInt32 >>> (((2 : Int32)).toUInt32 &&& Int32.toUInt32 31)).toInt32) &&& (858993459 : Int32)))).toUInt32 >>> (((4 : Int32)).toUInt32 &&& Int32.toUInt32 31)).toInt32)) &&& (252645135 : Int32))).toUInt32 >>> (((8 : Int32)).toUInt32 &&& Int32.toUInt32 31)).toInt32)))]) hx hb dJ6_bitCount_0f7a4_40 rfl hl (by decide) rfl (fun ls hl => ?_)
  refine lv_iload_n hx hb dJ6_bitCount_0f7a4_41 rfl (lv_at hl 0 rfl) ?_
  refine lv_iload_n hx hb dJ6_bitCount_0f7a4_42 rfl (lv_at hl 0 rfl) ?_
  refine lv_bipush (v := 16) hx hb dJ6_bitCount_0f7a4_43 (by decide) ?_
  refine lv_iushr hx hb dJ6_bitCount_0f7a4_45 rfl ?_
  refine lv_iadd hx hb dJ6_bitCount_0f7a4_46 ?_
  refine lv_istore_n (lv' := [(0, .int (((((((p0 - ((((p0).toUInt32 >>> (((1 : Int32)).toUInt32 &&& Int32.toUInt32 31)).toInt32) &&& (1431655765 : Int32))) &&& (858993459 : Int32)) + (((((p0 - ((((p0).toUInt32 >>> (((1 : Int32)).toUInt32 &&& Int32.toUInt32 31)).toInt32) &&& (1431655765 : Int32)))).toUInt32 >>> (((2 : Int32)).toUInt32 &&& Int32.toUInt32 31)).toInt32) &&& (858993459 : Int32))) + ((((((p0 - ((((p0).toUInt32 >>> (((1 : Int32)).toUInt32 &&& Int32.toUInt32 31)).toInt32) &&& (1431655765 : Int32))) &&& (858993459 : Int32)) + (((((p0 - ((((p0).toUInt32 >>> (((1 : Int32)).toUInt32 &&& Int32.toUInt32 31)).toInt32) &&& (1431655765 : Int32)))).toUInt32 >>> (((2 : Int32)).toUInt32 &&& Int32.toUInt32 31)).toInt32) &&& (858993459 : Int32)))).toUInt32 >>> (((4 : Int32)).toUInt32 &&& Int32.toUInt32 31)).toInt32)) &&& (252645135 : Int32)) + ((((((((p0 - ((((p0).toUInt32 >>> (((1 : Int32)).toUInt32 &&& Int32.toUInt32 31)).toInt32) &&& (1431655765 : Int32))) &&& (858993459 : Int32)) + (((((p0 - ((((p0).toUInt32 >>> (((1 : Int32)).toUInt32 &&& Int32.toUInt32 31)).toInt32) &&& (1431655765 : Int32)))).toUInt32 >>> (((2 : Int32)).toUInt32 &&& Int32.toUInt32 31)).toInt32) &&& (858993459 : Int32))) + ((((((p0 - ((((p0).toUInt32 >>> (((1 : Int32)).toUInt32 &&& Int32.toUInt32 31)).toInt32) &&& (1431655765 : Int32))) &&& (858993459 : Int32)) + (((((p0 - ((((p0).toUInt32 >>> (((1 : Int32)).toUInt32 &&& Int32.toUInt32 31)).toInt32) &&& (1431655765 : Int32)))).toUInt32 >>> (((2 : Int32)).toUInt32 &&& Int32.toUInt32 31)).toInt32) &&& (858993459 : Int32)))).toUInt32 >>> (((4 : Int32)).toUInt32 &&& Int32.toUInt32 31)).toInt32)) &&& (252645135 : Int32))).toUInt32 >>> (((8 : Int32)).toUInt32 &&& Int32.toUInt32 31)).toInt32)) + (((((((((p0 - ((((p0).toUInt32 >>> (((1 : Int32)).toUInt32 &&& Int32.toUInt32 31)).toInt32) &&& (1431655765 : Int32))) &&& (858993459 : Int32)) + (((((p0 - ((((p0).toUInt32 >>> (((1 : Int32)).toUInt32 &&& Int32.toUInt32 31)).toInt32) &&& (1431655765 : Int32)))).toUInt32 >>> (((2 : Int32)).toUInt32 &&& Int32.toUInt32 31)).toInt32) &&& (858993459 : Int32))) + ((((((p0 - ((((p0).toUInt32 >>> (((1 : Int32)).toUInt32 &&& Int32.toUInt32 31)).toInt32) &&& (1431655765 : Int32))) &&& (858993459 : Int32)) + (((((p0 - ((((p0).toUInt32 >>> (((1 : Int32)).toUInt32 &&& Int32.toUInt32 31)).toInt32) &&& (1431655765 : Int32)))).toUInt32 >>> (((2 : Int32)).toUInt32 &&& Int32.toUInt32 31)).toInt32) &&& (858993459 : Int32)))).toUInt32 >>> (((4 : Int32)).toUInt32 &&& Int32.toUInt32 31)).toInt32)) &&& (252645135 : Int32)) + ((((((((p0 - ((((p0).toUInt32 >>> (((1 : Int32)).toUInt32 &&& Int32.toUInt32 31)).toInt32) &&& (1431655765 : Int32))) &&& (858993459 : Int32)) + (((((p0 - ((((p0).toUInt32 >>> (((1 : Int32)).toUInt32 &&& Int32.toUInt32 31)).toInt32) &&& (1431655765 : Int32)))).toUInt32 >>> (((2 : Int32)).toUInt32 &&& Int32.toUInt32 31)).toInt32) &&& (858993459 : Int32))) + ((((((p0 - ((((p0).toUInt32 >>> (((1 : Int32)).toUInt32 &&& Int32.toUInt32 31)).toInt32) &&& (1431655765 : Int32))) &&& (858993459 : Int32)) + (((((p0 - ((((p0).toUInt32 >>> (((1 : Int32)).toUInt32 &&& Int32.toUInt32 31)).toInt32) &&& (1431655765 : Int32)))).toUInt32 >>> (((2 : Int32)).toUInt32 &&& Int32.toUInt32 31)).toInt32) &&& (858993459 : Int32)))).toUInt32 >>> (((4 : Int32)).toUInt32 &&& Int32.toUInt32 31)).toInt32)) &&& (252645135 : Int32))).toUInt32 >>> (((8 : Int32)).toUInt32 &&& Int32.toUInt32 31)).toInt32))).toUInt32 >>> (((16 : Int32)).toUInt32 &&& Int32.toUInt32 31)).toInt32)))]) hx hb dJ6_bitCount_0f7a4_47 rfl hl (by decide) rfl (fun ls hl => ?_)
  refine lv_iload_n hx hb dJ6_bitCount_0f7a4_48 rfl (lv_at hl 0 rfl) ?_
  refine lv_bipush (v := 63) hx hb dJ6_bitCount_0f7a4_49 (by decide) ?_
  refine lv_iand hx hb dJ6_bitCount_0f7a4_51 ?_
  exact k_iret (v := ((((((((p0 - ((((p0).toUInt32 >>> (((1 : Int32)).toUInt32 &&& Int32.toUInt32 31)).toInt32) &&& (1431655765 : Int32))) &&& (858993459 : Int32)) + (((((p0 - ((((p0).toUInt32 >>> (((1 : Int32)).toUInt32 &&& Int32.toUInt32 31)).toInt32) &&& (1431655765 : Int32)))).toUInt32 >>> (((2 : Int32)).toUInt32 &&& Int32.toUInt32 31)).toInt32) &&& (858993459 : Int32))) + ((((((p0 - ((((p0).toUInt32 >>> (((1 : Int32)).toUInt32 &&& Int32.toUInt32 31)).toInt32) &&& (1431655765 : Int32))) &&& (858993459 : Int32)) + (((((p0 - ((((p0).toUInt32 >>> (((1 : Int32)).toUInt32 &&& Int32.toUInt32 31)).toInt32) &&& (1431655765 : Int32)))).toUInt32 >>> (((2 : Int32)).toUInt32 &&& Int32.toUInt32 31)).toInt32) &&& (858993459 : Int32)))).toUInt32 >>> (((4 : Int32)).toUInt32 &&& Int32.toUInt32 31)).toInt32)) &&& (252645135 : Int32)) + ((((((((p0 - ((((p0).toUInt32 >>> (((1 : Int32)).toUInt32 &&& Int32.toUInt32 31)).toInt32) &&& (1431655765 : Int32))) &&& (858993459 : Int32)) + (((((p0 - ((((p0).toUInt32 >>> (((1 : Int32)).toUInt32 &&& Int32.toUInt32 31)).toInt32) &&& (1431655765 : Int32)))).toUInt32 >>> (((2 : Int32)).toUInt32 &&& Int32.toUInt32 31)).toInt32) &&& (858993459 : Int32))) + ((((((p0 - ((((p0).toUInt32 >>> (((1 : Int32)).toUInt32 &&& Int32.toUInt32 31)).toInt32) &&& (1431655765 : Int32))) &&& (858993459 : Int32)) + (((((p0 - ((((p0).toUInt32 >>> (((1 : Int32)).toUInt32 &&& Int32.toUInt32 31)).toInt32) &&& (1431655765 : Int32)))).toUInt32 >>> (((2 : Int32)).toUInt32 &&& Int32.toUInt32 31)).toInt32) &&& (858993459 : Int32)))).toUInt32 >>> (((4 : Int32)).toUInt32 &&& Int32.toUInt32 31)).toInt32)) &&& (252645135 : Int32))).toUInt32 >>> (((8 : Int32)).toUInt32 &&& Int32.toUInt32 31)).toInt32)) + (((((((((p0 - ((((p0).toUInt32 >>> (((1 : Int32)).toUInt32 &&& Int32.toUInt32 31)).toInt32) &&& (1431655765 : Int32))) &&& (858993459 : Int32)) + (((((p0 - ((((p0).toUInt32 >>> (((1 : Int32)).toUInt32 &&& Int32.toUInt32 31)).toInt32) &&& (1431655765 : Int32)))).toUInt32 >>> (((2 : Int32)).toUInt32 &&& Int32.toUInt32 31)).toInt32) &&& (858993459 : Int32))) + ((((((p0 - ((((p0).toUInt32 >>> (((1 : Int32)).toUInt32 &&& Int32.toUInt32 31)).toInt32) &&& (1431655765 : Int32))) &&& (858993459 : Int32)) + (((((p0 - ((((p0).toUInt32 >>> (((1 : Int32)).toUInt32 &&& Int32.toUInt32 31)).toInt32) &&& (1431655765 : Int32)))).toUInt32 >>> (((2 : Int32)).toUInt32 &&& Int32.toUInt32 31)).toInt32) &&& (858993459 : Int32)))).toUInt32 >>> (((4 : Int32)).toUInt32 &&& Int32.toUInt32 31)).toInt32)) &&& (252645135 : Int32)) + ((((((((p0 - ((((p0).toUInt32 >>> (((1 : Int32)).toUInt32 &&& Int32.toUInt32 31)).toInt32) &&& (1431655765 : Int32))) &&& (858993459 : Int32)) + (((((p0 - ((((p0).toUInt32 >>> (((1 : Int32)).toUInt32 &&& Int32.toUInt32 31)).toInt32) &&& (1431655765 : Int32)))).toUInt32 >>> (((2 : Int32)).toUInt32 &&& Int32.toUInt32 31)).toInt32) &&& (858993459 : Int32))) + ((((((p0 - ((((p0).toUInt32 >>> (((1 : Int32)).toUInt32 &&& Int32.toUInt32 31)).toInt32) &&& (1431655765 : Int32))) &&& (858993459 : Int32)) + (((((p0 - ((((p0).toUInt32 >>> (((1 : Int32)).toUInt32 &&& Int32.toUInt32 31)).toInt32) &&& (1431655765 : Int32)))).toUInt32 >>> (((2 : Int32)).toUInt32 &&& Int32.toUInt32 31)).toInt32) &&& (858993459 : Int32)))).toUInt32 >>> (((4 : Int32)).toUInt32 &&& Int32.toUInt32 31)).toInt32)) &&& (252645135 : Int32))).toUInt32 >>> (((8 : Int32)).toUInt32 &&& Int32.toUInt32 31)).toInt32))).toUInt32 >>> (((16 : Int32)).toUInt32 &&& Int32.toUInt32 31)).toInt32)) &&& (63 : Int32))) (u := ()) hx hb hr hlocks hK hS eQ hf hP hD dJ6_bitCount_0f7a4_52
set_option maxHeartbeats 4000000 in
set_option maxRecDepth 100000 in
theorem c_X10_atT (l : Launch) (D : va_G) (cI cZ : ClassId) (tA : Nat) (sz : Nat) (p1 : Int32) (z : Int32 × Unit) (hf : f_X10_atT p1 = some z) : Met l yX10_at wsX10_at rmX10_atT (va_Pc [.ref tA, .int p1] (wPrT D cI cZ tA (([] : va_W)) sz)) (va_Qi (fun (r : Int32) (v : Unit) => (r, v) = z) (fun (v : Unit) t => wPo D cI cZ (va_A (([] : va_W)) sz) (([] : va_W)) t) (va_A (([] : va_W)) sz)) 0 0 (va_A (([] : va_W)) sz) := by
  refine k_enterT (D := D) (cI := cI) (cZ := cZ) (wl := ([] : va_W)) (sz := sz) (av := [.ref tA, .int p1]) (cc := cX10_at) (maxL := 2) (ret := (some .int)) (Qc := fun A => va_Qi (fun (r : Int32) (v : Unit) => (r, v) = z) (fun (v : Unit) t => wPo D cI cZ (A) (([] : va_W)) t) (A)) (by decide) rfl (Nat.le_of_ble_eq_true rfl) ?_
  intro p e s m below meth c ls A Q H locs eQ hx hb hr hml hts hown hlocks hK hP hD hS hA hE hl hT
  have hown : s.vm.findClass RX10 = some m.cls := hown
  have hl : lv_has ls 2 [(0, .ref tA), (1, .int p1)] := hl
  rw [f_X10_atT] at hf
  refine lv_iload_n hx hb dX10_at_0 rfl (lv_at hl 1 rfl) ?_
  refine lv_if_lt (tgt := 16) hx hb dX10_at_1 (by decide) (fun c1 => ?_) (fun c1 => ?_)
  · have hf := (if_pos c1).symm.trans hf
    refine lv_bipush (v := -6) hx hb dX10_at_16 (by decide) ?_
    exact k_iret (v := (-6 : Int32)) (u := ()) hx hb hr hlocks hK hS eQ hf hP hD dX10_at_18
  · have hf := (if_neg c1).symm.trans hf
    refine lv_iload_n hx hb dX10_at_4 rfl (lv_at hl 1 rfl) ?_
    refine lv_aload_n hx hb dX10_at_5 rfl (lv_at hl 0 rfl) ?_
    refine va_tlen hx hb hT hS (v := 8) rfl dX10_at_6 ?_
    refine lv_icmp_ge (tgt := 16) hx hb dX10_at_7 (by decide) (fun c2 => ?_) (fun c2 => ?_)
    · have hf := (if_pos c2).symm.trans hf
      refine lv_bipush (v := -6) hx hb dX10_at_16 (by decide) ?_
      exact k_iret (v := (-6 : Int32)) (u := ()) hx hb hr hlocks hK hS eQ hf hP hD dX10_at_18
    · have hf := (if_neg c2).symm.trans hf
      refine lv_aload_n hx hb dX10_at_10 rfl (lv_at hl 0 rfl) ?_
      refine lv_iload_n hx hb dX10_at_11 rfl (lv_at hl 1 rfl) ?_
      by_cases c3 : p1 < 0 ∨ 8 ≤ p1.toNatClampNeg
      · have hf := (if_pos c3).symm.trans hf
        cases hf
      have hf := (if_neg c3).symm.trans hf
      refine va_ti hx hb hT hS (show vp_in p1 8 from c3) (v := .int (arms p1.toNatClampNeg)) rfl dX10_at_12 ?_
      refine lv_goto (tgt := 18) hx hb dX10_at_13 (by decide) ?_
      exact k_iret (v := (arms p1.toNatClampNeg)) (u := ()) hx hb hr hlocks hK hS eQ hf hP hD dX10_at_18
