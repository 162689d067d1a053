def f_X10_at (n_r0 : Nat) (u_r0 : Fn) (p1 : Int32) : Option (Int32 × Unit) := (if p1 < 0 then some ((-6 : Int32), ()) else (if (Int32.ofNat n_r0) ≤ p1 then some ((-6 : Int32), ()) else if p1 < 0 ∨ n_r0 ≤ p1.toNatClampNeg then none else some ((u_r0 p1.toNatClampNeg), ())))
abbrev rmX10_at : Room := { frames := 0, cells := 0, slots := 0, locals := 0 }
theorem hd_X10_at : yX10_at.cls ≠ "java/lang/invoke/MethodHandle" ∧ yX10_at.cls ≠ "java/lang/invoke/VarHandle" ∧ (parseMethodDescriptor yX10_at.desc).map (fun d => d.parameters.length) = some 2 := by decide +kernel
set_option maxHeartbeats 4000000 in
set_option maxRecDepth 100000 in
theorem c_X10_at (l : Launch) (D : va_G) (cI cZ : ClassId) (r00 : Nat)  (sz : Nat) (n_r0 : Nat) (u_r0 : Fn) (p1 : Int32) (z : Int32 × Unit) (hf : f_X10_at n_r0 u_r0 p1 = some z) : Met l yX10_at wsX10_at rmX10_at (va_Pc [.ref r00, .int p1] (wPr D cI cZ (cA cI r00 n_r0 u_r0) sz)) (va_Qi (fun (r : Int32) (v : Unit) => (r, v) = z) (fun (v : Unit) t => wPo D cI cZ (va_A (cA cI r00 n_r0 u_r0) sz) (cA cI r00 n_r0 u_r0) t) (va_A (cA cI r00 n_r0 u_r0) sz)) 0 0 (va_A (cA cI r00 n_r0 u_r0) sz) := by
  refine k_enter (D := D) (cI := cI) (cZ := cZ) (wl := cA cI r00 n_r0 u_r0) (sz := sz) (av := [.ref r00, .int p1]) (cc := cX10_at) (maxL := 2) (ret := (some .int)) (Qc := fun A => va_Qi (fun (r : Int32) (v : Unit) => (r, v) = z) (fun (v : Unit) t => wPo D cI cZ (A) (cA cI r00 n_r0 u_r0) t) (A)) (by decide) rfl (Nat.le_of_ble_eq_true rfl) ?_
  intro p e s m below meth c ls A Q eQ hx hb hr hml hts hown hlocks hK hP hD hS hA hE hl
  have hown : s.vm.findClass RX10 = some m.cls := hown
  have hl : lv_has ls 2 [(0, .ref r00), (1, .int p1)] := hl
  rw [f_X10_at] at hf
  refine lv_iload_n hx hb dX10_at_0 rfl (lv_at hl 1 rfl) ?_
  refine lv_if_lt (tgt := 16) hx hb dX10_at_1 (by decide) (fun c1 => ?_) (fun c1 => ?_)
  · have hf := (if_pos c1).symm.trans hf
    refine lv_bipush (v := -6) hx hb dX10_at_16 (by decide) ?_
    exact k_iret (v := (-6 : Int32)) (u := ()) hx hb hr hlocks hK hS eQ hf hP hD dX10_at_18
  · have hf := (if_neg c1).symm.trans hf
    refine lv_iload_n hx hb dX10_at_4 rfl (lv_at hl 1 rfl) ?_
    refine lv_aload_n hx hb dX10_at_5 rfl (lv_at hl 0 rfl) ?_
    refine va_alen hx hb hK hP 0 0 rfl rfl (v := (Int32.ofNat n_r0)) rfl dX10_at_6 ?_
    refine lv_icmp_ge (tgt := 16) hx hb dX10_at_7 (by decide) (fun c2 => ?_) (fun c2 => ?_)
    · have hf := (if_pos c2).symm.trans hf
      refine lv_bipush (v := -6) hx hb dX10_at_16 (by decide) ?_
      exact k_iret (v := (-6 : Int32)) (u := ()) hx hb hr hlocks hK hS eQ hf hP hD dX10_at_18
    · have hf := (if_neg c2).symm.trans hf
      refine lv_aload_n hx hb dX10_at_10 rfl (lv_at hl 0 rfl) ?_
      refine lv_iload_n hx hb dX10_at_11 rfl (lv_at hl 1 rfl) ?_
      by_cases c3 : p1 < 0 ∨ n_r0 ≤ p1.toNatClampNeg
      · have hf := (if_pos c3).symm.trans hf
        cases hf
      have hf := (if_neg c3).symm.trans hf
      refine va_iald hx hb hK hP 0 0 rfl rfl (show vp_in p1 n_r0 from c3) dX10_at_12 ?_
      refine lv_goto (tgt := 18) hx hb dX10_at_13 (by decide) ?_
      exact k_iret (v := (u_r0 p1.toNatClampNeg)) (u := ()) hx hb hr hlocks hK hS eQ hf hP hD dX10_at_18
def f_X10_put (n_r0 : Nat) (u_r0 : Fn) (p1 : Int32) (p2 : Int32) : Option (Fn) := (if p1 < 0 then some u_r0 else (if (Int32.ofNat n_r0) ≤ p1 then some u_r0 else if p1 < 0 ∨ n_r0 ≤ p1.toNatClampNeg then none else some (upd u_r0 p1.toNatClampNeg p2)))
abbrev rmX10_put : Room := { frames := 0, cells := 0, slots := 0, locals := 0 }
theorem hd_X10_put : yX10_put.cls ≠ "java/lang/invoke/MethodHandle" ∧ yX10_put.cls ≠ "java/lang/invoke/VarHandle" ∧ (parseMethodDescriptor yX10_put.desc).map (fun d => d.parameters.length) = some 3 := by decide +kernel
set_option maxHeartbeats 4000000 in
set_option maxRecDepth 100000 in
theorem c_X10_put (l : Launch) (D : va_G) (cI cZ : ClassId) (r00 : Nat)  (sz : Nat) (n_r0 : Nat) (u_r0 : Fn) (p1 : Int32) (p2 : Int32) (z : Fn) (hf : f_X10_put n_r0 u_r0 p1 p2 = some z) : Met l yX10_put wsX10_put rmX10_put (va_Pc [.ref r00, .int p1, .int p2] (wPr D cI cZ (cA cI r00 n_r0 u_r0) sz)) (va_Qv (fun (v : Fn) => v = z) (fun (v : Fn) t => wPo D cI cZ (va_A (cA cI r00 n_r0 u_r0) sz) (cA cI r00 n_r0 v) t) (va_A (cA cI r00 n_r0 u_r0) sz)) 0 0 (va_A (cA cI r00 n_r0 u_r0) sz) := by
  refine k_enter (D := D) (cI := cI) (cZ := cZ) (wl := cA cI r00 n_r0 u_r0) (sz := sz) (av := [.ref r00, .int p1, .int p2]) (cc := cX10_put) (maxL := 3) (ret := none) (Qc := fun A => va_Qv (fun (v : Fn) => v = z) (fun (v : Fn) t => wPo D cI cZ (A) (cA cI r00 n_r0 v) t) (A)) (by decide) rfl (Nat.le_of_ble_eq_true rfl) ?_
  intro p e s m below meth c ls A Q eQ hx hb hr hml hts hown hlocks hK hP hD hS hA hE hl
  have hown : s.vm.findClass RX10 = some m.cls := hown
  have hl : lv_has ls 3 [(0, .ref r00), (1, .int p1), (2, .int p2)] := hl
  rw [f_X10_put] at hf
  refine lv_iload_n hx hb dX10_put_0 rfl (lv_at hl 1 rfl) ?_
  refine lv_if_lt (tgt := 14) hx hb dX10_put_1 (by decide) (fun c1 => ?_) (fun c1 => ?_)
  · have hf := (if_pos c1).symm.trans hf
    exact k_vret (u := u_r0) hx hb hr hlocks hK hS eQ hf hP hD dX10_put_14
  · have hf := (if_neg c1).symm.trans hf
    refine lv_iload_n hx hb dX10_put_4 rfl (lv_at hl 1 rfl) ?_
    refine lv_aload_n hx hb dX10_put_5 rfl (lv_at hl 0 rfl) ?_
    refine va_alen hx hb hK hP 0 0 rfl rfl (v := (Int32.ofNat n_r0)) rfl dX10_put_6 ?_
    refine lv_icmp_ge (tgt := 14) hx hb dX10_put_7 (by decide) (fun c2 => ?_) (fun c2 => ?_)
    · have hf := (if_pos c2).symm.trans hf
      exact k_vret (u := u_r0) hx hb hr hlocks hK hS eQ hf hP hD dX10_put_14
    · have hf := (if_neg c2).symm.trans hf
      refine lv_aload_n hx hb dX10_put_10 rfl (lv_at hl 0 rfl) ?_
      refine lv_iload_n hx hb dX10_put_11 rfl (lv_at hl 1 rfl) ?_
      refine lv_iload_n hx hb dX10_put_12 rfl (lv_at hl 2 rfl) ?_
      by_cases c3 : p1 < 0 ∨ n_r0 ≤ p1.toNatClampNeg
      · have hf := (if_pos c3).symm.trans hf
        cases hf
      have hf := (if_neg c3).symm.trans hf
      refine va_iast hx hb hK hP hD hS 0 0 rfl rfl (show vp_in p1 n_r0 from c3) dX10_put_13 (fun H locs hP hD hS => ?_)
      have hP : va_P D vwCl (cA cI r00 n_r0 (upd u_r0 p1.toNatClampNeg p2)) H := hP
      have hD : va_D A (cA cI r00 n_r0 (upd u_r0 p1.toNatClampNeg p2)) := hD
      exact k_vret (u := (upd u_r0 p1.toNatClampNeg p2)) hx hb hr hlocks hK hS eQ hf hP hD dX10_put_14
