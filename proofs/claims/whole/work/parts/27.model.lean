theorem hd_X11_goText : yX11_goText.cls ≠ "java/lang/invoke/MethodHandle" ∧ yX11_goText.cls ≠ "java/lang/invoke/VarHandle" ∧ (parseMethodDescriptor yX11_goText.desc).map (fun d => d.parameters.length) = some 2 := by decide +kernel
set_option maxHeartbeats 4000000 in
set_option maxRecDepth 100000 in
theorem c_X11_goText (l : Launch) (D : va_G) (cI cZ : ClassId) (th0 : Nat) (th1 : Nat) (th2 : Nat) (th3 : Nat) (th4 : Nat) (th5 : Nat) (th6 : Nat) (th7 : Nat) (th8 : Nat) (th9 : Nat) (sz : Nat) (u_th : sM) (p1 : Int32) (p2 : Int32) (z : Int32 × sM) (hf : f_X11_goText u_th p1 p2 = some z) : Met l yX11_goText wsX11_goText rmX11_goText (va_Pc [.ref th0, .int p1, .int p2] (wPr D cI cZ (ceM cI cZ th0 th1 th2 th3 th4 th5 th6 th7 th8 th9 u_th) sz)) (va_Qi (fun (r : Int32) (v : sM) => (r, v) = z) (fun (v : sM) t => wPo D cI cZ (va_A (ceM cI cZ th0 th1 th2 th3 th4 th5 th6 th7 th8 th9 u_th) sz) (ceM cI cZ th0 th1 th2 th3 th4 th5 th6 th7 th8 th9 v) t) (va_A (ceM cI cZ th0 th1 th2 th3 th4 th5 th6 th7 th8 th9 u_th) sz)) 0 0 (va_A (ceM cI cZ th0 th1 th2 th3 th4 th5 th6 th7 th8 th9 u_th) sz) := by
  refine k_enter (D := D) (cI := cI) (cZ := cZ) (wl := ceM cI cZ th0 th1 th2 th3 th4 th5 th6 th7 th8 th9 u_th) (sz := sz) (av := [.ref th0, .int p1, .int p2]) (cc := cX11_goText) (maxL := 7) (ret := (some .int)) (Qc := fun A => va_Qi (fun (r : Int32) (v : sM) => (r, v) = z) (fun (v : sM) t => wPo D cI cZ (A) (ceM cI cZ th0 th1 th2 th3 th4 th5 th6 th7 th8 th9 v) t) (A)) (by decide) rfl (Nat.le_of_ble_eq_true rfl) ?_
  intro p e s m below meth c ls A Q H locs eQ hx hb hr hml hts hown hlocks hK hP hD hS hA hE hl
  have hown : s.vm.findClass RX11 = some m.cls := hown
  have hl : lv_has ls 7 [(0, .ref th0), (1, .int p1), (2, .int p2)] := hl
  have hi_X11 : ∀ w ∈ wsX110, w ∈ wsX11_goText := fun w h => List.mem_cons_of_mem _ (List.mem_append_right _ h)
  have hJ447 : ∀ (K_37 : Int32 → Int32 → Int32 → Int32 → sM → Option (Int32 × sM)), (∀ (v1 : Int32) (v2 : Int32) (v3 : Int32) (v4 : Int32) (u_th : sM) (H : Heap) (locs : List Loc) (ls : Array Slot), lv_has ls 7 [(0, .ref th0), (1, .int v1), (2, .int v2), (3, .int v3), (4, .int v4)] → va_P D vwCl (ceM cI cZ th0 th1 th2 th3 th4 th5 th6 th7 th8 th9 u_th) H → va_D A (ceM cI cZ th0 th1 th2 th3 th4 th5 th6 th7 th8 th9 u_th) → va_S A s.heap H locs → K_37 v1 v2 v3 v4 u_th = some z → W p l e (headSpec wsX11_goText rmX11_goText).room s m ([.ref th0, .int p1, .int p2] : List Value).toArray below meth c H locs 0 0 Q (F0 m 37 ls [])) → ∀ (v1 : Int32) (v2 : Int32) (v3 : Int32) (v4 : Int32) (u_th : sM) (H : Heap) (locs : List Loc) (ls : Array Slot), lv_has ls 7 [(0, .ref th0), (1, .int v1), (2, .int v2), (3, .int v3), (4, .int v4)] → va_P D vwCl (ceM cI cZ th0 th1 th2 th3 th4 th5 th6 th7 th8 th9 u_th) H → va_D A (ceM cI cZ th0 th1 th2 th3 th4 th5 th6 th7 th8 th9 u_th) → va_S A s.heap H locs → f_X11_goText_J447 K_37 v1 v2 v3 v4 u_th = some z → W p l e (headSpec wsX11_goText rmX11_goText).room s m ([.ref th0, .int p1, .int p2] : List Value).toArray below meth c H locs 0 0 Q (F0 m 447 ls []) := by
    intro K_37 hK_37 v1 v2 v3 v4 u_th H locs ls hl hP hD hS hf
    rw [f_X11_goText_J447] at hf
    refine lv_aload_n hx hb dX11_goText_447 rfl (lv_at hl 0 rfl) ?_
    refine va_get (D := D) (ci := 8) (v := .int (M_reason u_th)) (C := RX11) (T := TX11) (N := 17) hx hb hts hi_X11 hown hK hP 0 rfl rfl 14 (by decide) (hts (.fieldLink RX11 79 "FairWheelModel" "reason" "I") (List.mem_of_getElem? (i := 1) rfl)) (fun _ h9 => h9) rfl dX11_goText_448 ?_
    refine lv_if_le (tgt := 457) hx hb dX11_goText_451 (by decide) (fun c17 => ?_) (fun c17 => ?_)
    · have hf := (if_pos c17).symm.trans hf
      refine lv_iinc (v := (v4 + (1 : Int32))) (lv' := [(4, .int (v4 + (1 : Int32))), (0, .ref th0), (1, .int v1), (2, .int v2), (3, .int v3)]) hx hb dX11_goText_457 hl (k := 4) rfl rfl (by decide) rfl (fun ls hl => ?_)
      refine lv_goto (tgt := 37) hx hb dX11_goText_460 (by decide) ?_
      exact hK_37 v1 v2 v3 (v4 + (1 : Int32)) u_th _ _ ls (lv_sub hl [1, 2, 3, 4, 0] rfl) hP hD hS hf
    · have hf := (if_neg c17).symm.trans hf
      refine lv_iload hx hb dX11_goText_454 (lv_at hl 4 rfl) ?_
      exact k_iret (v := v4) (u := u_th) hx hb hr hlocks hK hS eQ hf hP hD dX11_goText_456
  have hJ197 : ∀ (K_37 : Int32 → Int32 → Int32 → Int32 → sM → Option (Int32 × sM)), (∀ (v1 : Int32) (v2 : Int32) (v3 : Int32) (v4 : Int32) (u_th : sM) (H : Heap) (locs : List Loc) (ls : Array Slot), lv_has ls 7 [(0, .ref th0), (1, .int v1), (2, .int v2), (3, .int v3), (4, .int v4)] → va_P D vwCl (ceM cI cZ th0 th1 th2 th3 th4 th5 th6 th7 th8 th9 u_th) H → va_D A (ceM cI cZ th0 th1 th2 th3 th4 th5 th6 th7 th8 th9 u_th) → va_S A s.heap H locs → K_37 v1 v2 v3 v4 u_th = some z → W p l e (headSpec wsX11_goText rmX11_goText).room s m ([.ref th0, .int p1, .int p2] : List Value).toArray below meth c H locs 0 0 Q (F0 m 37 ls [])) → ∀ (v1 : Int32) (v2 : Int32) (v3 : Int32) (v4 : Int32) (s1 : Int32) (s2 : Int32) (u_th : sM) (H : Heap) (locs : List Loc) (ls : Array Slot), lv_has ls 7 [(0, .ref th0), (1, .int v1), (2, .int v2), (3, .int v3), (4, .int v4)] → va_P D vwCl (ceM cI cZ th0 th1 th2 th3 th4 th5 th6 th7 th8 th9 u_th) H → va_D A (ceM cI cZ th0 th1 th2 th3 th4 th5 th6 th7 th8 th9 u_th) → va_S A s.heap H locs → f_X11_goText_J197 K_37 v1 v2 v3 v4 s1 s2 u_th = some z → W p l e (headSpec wsX11_goText rmX11_goText).room s m ([.ref th0, .int p1, .int p2] : List Value).toArray below meth c H locs 0 0 Q (F0 m 197 ls [.int s2, .int s1, .ref th6]) := by
    intro K_37 hK_37 v1 v2 v3 v4 s1 s2 u_th H locs ls hl hP hD hS hf
    rw [f_X11_goText_J197] at hf
    by_cases c16 : s1 < 0 ∨ 8 ≤ s1.toNatClampNeg
    · have hf := (if_pos c16).symm.trans hf
      cases hf
    have hf := (if_neg c16).symm.trans hf
    refine va_iast hx hb hK hP hD hS 6 0 rfl rfl (show vp_in s1 8 from c16) dX11_goText_197 (fun H locs hP hD hS => ?_)
    have hP : va_P D vwCl (ceM cI cZ th0 th1 th2 th3 th4 th5 th6 th7 th8 th9 ((M_weight u_th), (M_sits u_th), (M_stones u_th), (M_at u_th), (M_drag u_th), (M_sights u_th), (M_sight u_th), (M_signs u_th), (M_pad u_th), (M_foot u_th), (M_turned u_th), (M_bothWays u_th), (upd (M_now u_th) s1.toNatClampNeg s2), (M_heap u_th), (M_reason u_th), (M_image u_th), (M_isKept u_th))) H := hP
    have hD : va_D A (ceM cI cZ th0 th1 th2 th3 th4 th5 th6 th7 th8 th9 ((M_weight u_th), (M_sits u_th), (M_stones u_th), (M_at u_th), (M_drag u_th), (M_sights u_th), (M_sight u_th), (M_signs u_th), (M_pad u_th), (M_foot u_th), (M_turned u_th), (M_bothWays u_th), (upd (M_now u_th) s1.toNatClampNeg s2), (M_heap u_th), (M_reason u_th), (M_image u_th), (M_isKept u_th))) := hD
    refine lv_goto (tgt := 447) hx hb dX11_goText_198 (by decide) ?_
    exact hJ447 K_37 hK_37 v1 v2 v3 v4 ((M_weight u_th), (M_sits u_th), (M_stones u_th), (M_at u_th), (M_drag u_th), (M_sights u_th), (M_sight u_th), (M_signs u_th), (M_pad u_th), (M_foot u_th), (M_turned u_th), (M_bothWays u_th), (upd (M_now u_th) s1.toNatClampNeg s2), (M_heap u_th), (M_reason u_th), (M_image u_th), (M_isKept u_th)) _ _ ls (lv_sub hl [0, 1, 2, 3, 4] rfl) hP hD hS hf
  have hJ188 : ∀ (K_37 : Int32 → Int32 → Int32 → Int32 → sM → Option (Int32 × sM)), (∀ (v1 : Int32) (v2 : Int32) (v3 : Int32) (v4 : Int32) (u_th : sM) (H : Heap) (locs : List Loc) (ls : Array Slot), lv_has ls 7 [(0, .ref th0), (1, .int v1), (2, .int v2), (3, .int v3), (4, .int v4)] → va_P D vwCl (ceM cI cZ th0 th1 th2 th3 th4 th5 th6 th7 th8 th9 u_th) H → va_D A (ceM cI cZ th0 th1 th2 th3 th4 th5 th6 th7 th8 th9 u_th) → va_S A s.heap H locs → K_37 v1 v2 v3 v4 u_th = some z → W p l e (headSpec wsX11_goText rmX11_goText).room s m ([.ref th0, .int p1, .int p2] : List Value).toArray below meth c H locs 0 0 Q (F0 m 37 ls [])) → ∀ (v1 : Int32) (v2 : Int32) (v3 : Int32) (v4 : Int32) (s1 : Int32) (u_th : sM) (H : Heap) (locs : List Loc) (ls : Array Slot), lv_has ls 7 [(0, .ref th0), (1, .int v1), (2, .int v2), (3, .int v3), (4, .int v4)] → va_P D vwCl (ceM cI cZ th0 th1 th2 th3 th4 th5 th6 th7 th8 th9 u_th) H → va_D A (ceM cI cZ th0 th1 th2 th3 th4 th5 th6 th7 th8 th9 u_th) → va_S A s.heap H locs → f_X11_goText_J188 K_37 v1 v2 v3 v4 s1 u_th = some z → W p l e (headSpec wsX11_goText rmX11_goText).room s m ([.ref th0, .int p1, .int p2] : List Value).toArray below meth c H locs 0 0 Q (F0 m 188 ls [.int s1, .ref th6]) := by
    intro K_37 hK_37 v1 v2 v3 v4 s1 u_th H locs ls hl hP hD hS hf
    rw [f_X11_goText_J188] at hf
    refine lv_aload_n hx hb dX11_goText_188 rfl (lv_at hl 0 rfl) ?_
    refine va_get (D := D) (ci := 8) (v := .ref th6) (C := RX11) (T := TX11) (N := 17) hx hb hts hi_X11 hown hK hP 0 rfl rfl 12 (by decide) (hts (.fieldLink RX11 29 "FairWheelModel" "now" "[I") (List.mem_of_getElem? (i := 4) rfl)) (fun _ h9 => h9) rfl dX11_goText_189 ?_
    refine lv_aload_n hx hb dX11_goText_192 rfl (lv_at hl 0 rfl) ?_
    refine va_get (D := D) (ci := 8) (v := .int (M_foot u_th)) (C := RX11) (T := TX11) (N := 17) hx hb hts hi_X11 hown hK hP 0 rfl rfl 9 (by decide) (hts (.fieldLink RX11 60 "FairWheelModel" "foot" "I") (List.mem_of_getElem? (i := 5) rfl)) (fun _ h9 => h9) rfl dX11_goText_193 ?_
    by_cases c15 : (M_foot u_th) < 0 ∨ 8 ≤ (M_foot u_th).toNatClampNeg
    · have hf := (if_pos c15).symm.trans hf
      cases hf
    have hf := (if_neg c15).symm.trans hf
    refine va_iald hx hb hK hP 6 0 rfl rfl (show vp_in (M_foot u_th) 8 from c15) dX11_goText_196 ?_
    exact hJ197 K_37 hK_37 v1 v2 v3 v4 s1 ((M_now u_th) (M_foot u_th).toNatClampNeg) u_th _ _ ls (lv_sub hl [0, 1, 2, 3, 4] rfl) hP hD hS hf
  have hJ159 : ∀ (K_37 : Int32 → Int32 → Int32 → Int32 → sM → Option (Int32 × sM)), (∀ (v1 : Int32) (v2 : Int32) (v3 : Int32) (v4 : Int32) (u_th : sM) (H : Heap) (locs : List Loc) (ls : Array Slot), lv_has ls 7 [(0, .ref th0), (1, .int v1), (2, .int v2), (3, .int v3), (4, .int v4)] → va_P D vwCl (ceM cI cZ th0 th1 th2 th3 th4 th5 th6 th7 th8 th9 u_th) H → va_D A (ceM cI cZ th0 th1 th2 th3 th4 th5 th6 th7 th8 th9 u_th) → va_S A s.heap H locs → K_37 v1 v2 v3 v4 u_th = some z → W p l e (headSpec wsX11_goText rmX11_goText).room s m ([.ref th0, .int p1, .int p2] : List Value).toArray below meth c H locs 0 0 Q (F0 m 37 ls [])) → ∀ (v1 : Int32) (v2 : Int32) (v3 : Int32) (v4 : Int32) (v6 : Int32) (s1 : Int32) (u_th : sM) (H : Heap) (locs : List Loc) (ls : Array Slot), lv_has ls 7 [(0, .ref th0), (1, .int v1), (2, .int v2), (3, .int v3), (4, .int v4), (6, .int v6)] → va_P D vwCl (ceM cI cZ th0 th1 th2 th3 th4 th5 th6 th7 th8 th9 u_th) H → va_D A (ceM cI cZ th0 th1 th2 th3 th4 th5 th6 th7 th8 th9 u_th) → va_S A s.heap H locs → f_X11_goText_J159 K_37 v1 v2 v3 v4 v6 s1 u_th = some z → W p l e (headSpec wsX11_goText rmX11_goText).room s m ([.ref th0, .int p1, .int p2] : List Value).toArray below meth c H locs 0 0 Q (F0 m 159 ls [.int s1, .ref th0]) := by
    intro K_37 hK_37 v1 v2 v3 v4 v6 s1 u_th H locs ls hl hP hD hS hf
    rw [f_X11_goText_J159] at hf
    refine va_put (D := D) (ci := 8) (v := .int s1) (ty := .int) (C := RX11) (T := TX11) (N := 17) hx hb hts hi_X11 tyX11 tyX11_ok nmX11 hown hK hP hD hS 0 rfl rfl 14 (by decide) (hts (.fieldLink RX11 79 "FairWheelModel" "reason" "I") (List.mem_of_getElem? (i := 1) rfl)) (fun _ h9 => h9) rfl (by decide +kernel) rfl rfl (Nat.le_of_ble_eq_true rfl) dX11_goText_159 (fun H locs hP hD hS => ?_)
    have hP : va_P D vwCl (ceM cI cZ th0 th1 th2 th3 th4 th5 th6 th7 th8 th9 ((M_weight u_th), (M_sits u_th), (M_stones u_th), (M_at u_th), (M_drag u_th), (M_sights u_th), (M_sight u_th), (M_signs u_th), (M_pad u_th), (M_foot u_th), (M_turned u_th), (M_bothWays u_th), (M_now u_th), (M_heap u_th), s1, (M_image u_th), (M_isKept u_th))) H := hP
    have hD : va_D A (ceM cI cZ th0 th1 th2 th3 th4 th5 th6 th7 th8 th9 ((M_weight u_th), (M_sits u_th), (M_stones u_th), (M_at u_th), (M_drag u_th), (M_sights u_th), (M_sight u_th), (M_signs u_th), (M_pad u_th), (M_foot u_th), (M_turned u_th), (M_bothWays u_th), (M_now u_th), (M_heap u_th), s1, (M_image u_th), (M_isKept u_th))) := hD
    refine lv_aload_n hx hb dX11_goText_162 rfl (lv_at hl 0 rfl) ?_
    refine va_get (D := D) (ci := 8) (v := .ref th6) (C := RX11) (T := TX11) (N := 17) hx hb hts hi_X11 hown hK hP 0 rfl rfl 12 (by decide) (hts (.fieldLink RX11 29 "FairWheelModel" "now" "[I") (List.mem_of_getElem? (i := 4) rfl)) (fun _ h9 => h9) rfl dX11_goText_163 ?_
    refine lv_aload_n hx hb dX11_goText_166 rfl (lv_at hl 0 rfl) ?_
    refine va_get (D := D) (ci := 8) (v := .int (M_foot u_th)) (C := RX11) (T := TX11) (N := 17) hx hb hts hi_X11 hown hK hP 0 rfl rfl 9 (by decide) (hts (.fieldLink RX11 60 "FairWheelModel" "foot" "I") (List.mem_of_getElem? (i := 5) rfl)) (fun _ h9 => h9) rfl dX11_goText_167 ?_
    refine lv_aload_n hx hb dX11_goText_170 rfl (lv_at hl 0 rfl) ?_
    refine va_get (D := D) (ci := 8) (v := .int s1) (C := RX11) (T := TX11) (N := 17) hx hb hts hi_X11 hown hK hP 0 rfl rfl 14 (by decide) (hts (.fieldLink RX11 79 "FairWheelModel" "reason" "I") (List.mem_of_getElem? (i := 1) rfl)) (fun _ h9 => h9) rfl dX11_goText_171 ?_
    refine lv_if_ne (tgt := 188) hx hb dX11_goText_174 (by decide) (fun c14 => ?_) (fun c14 => ?_)
    · have hf := (if_neg c14).symm.trans hf
      exact hJ188 K_37 hK_37 v1 v2 v3 v4 (M_foot u_th) ((M_weight u_th), (M_sits u_th), (M_stones u_th), (M_at u_th), (M_drag u_th), (M_sights u_th), (M_sight u_th), (M_signs u_th), (M_pad u_th), (M_foot u_th), (M_turned u_th), (M_bothWays u_th), (M_now u_th), (M_heap u_th), s1, (M_image u_th), (M_isKept u_th)) _ _ ls (lv_sub hl [0, 1, 2, 3, 4] rfl) hP hD hS hf
    · have hf := (if_pos c14).symm.trans hf
      refine lv_iload hx hb dX11_goText_177 (lv_at hl 4 rfl) ?_
      refine lv_iload_n hx hb dX11_goText_179 rfl (lv_at hl 2 rfl) ?_
      refine lv_icmp_eq (tgt := 188) hx hb dX11_goText_180 (by decide) (fun c18 => ?_) (fun c18 => ?_)
      · have hf := (if_pos c18).symm.trans hf
        exact hJ188 K_37 hK_37 v1 v2 v3 v4 (M_foot u_th) ((M_weight u_th), (M_sits u_th), (M_stones u_th), (M_at u_th), (M_drag u_th), (M_sights u_th), (M_sight u_th), (M_signs u_th), (M_pad u_th), (M_foot u_th), (M_turned u_th), (M_bothWays u_th), (M_now u_th), (M_heap u_th), s1, (M_image u_th), (M_isKept u_th)) _ _ ls (lv_sub hl [0, 1, 2, 3, 4] rfl) hP hD hS hf
      · have hf := (if_neg c18).symm.trans hf
        refine lv_iload hx hb dX11_goText_183 (lv_at hl 5 rfl) ?_
        refine lv_goto (tgt := 197) hx hb dX11_goText_185 (by decide) ?_
        exact hJ197 K_37 hK_37 v1 v2 v3 v4 (M_foot u_th) v6 ((M_weight u_th), (M_sits u_th), (M_stones u_th), (M_at u_th), (M_drag u_th), (M_sights u_th), (M_sight u_th), (M_signs u_th), (M_pad u_th), (M_foot u_th), (M_turned u_th), (M_bothWays u_th), (M_now u_th), (M_heap u_th), s1, (M_image u_th), (M_isKept u_th)) _ _ ls (lv_sub hl [0, 1, 2, 3, 4] rfl) hP hD hS hf
  have hJ117 : ∀ (K_37 : Int32 → Int32 → Int32 → Int32 → sM → Option (Int32 × sM)), (∀ (v1 : Int32) (v2 : Int32) (v3 : Int32) (v4 : Int32) (u_th : sM) (H : Heap) (locs : List Loc) (ls : Array Slot), lv_has ls 7 [(0, .ref th0), (1, .int v1), (2, .int v2), (3, .int v3), (4, .int v4)] → va_P D vwCl (ceM cI cZ th0 th1 th2 th3 th4 th5 th6 th7 th8 th9 u_th) H → va_D A (ceM cI cZ th0 th1 th2 th3 th4 th5 th6 th7 th8 th9 u_th) → va_S A s.heap H locs → K_37 v1 v2 v3 v4 u_th = some z → W p l e (headSpec wsX11_goText rmX11_goText).room s m ([.ref th0, .int p1, .int p2] : List Value).toArray below meth c H locs 0 0 Q (F0 m 37 ls [])) → ∀ (v1 : Int32) (v2 : Int32) (v4 : Int32) (v6 : Int32) (s0 : Int32) (u_th : sM) (H : Heap) (locs : List Loc) (ls : Array Slot), lv_has ls 7 [(0, .ref th0), (1, .int v1), (2, .int v2), (4, .int v4), (6, .int v6)] → va_P D vwCl (ceM cI cZ th0 th1 th2 th3 th4 th5 th6 th7 th8 th9 u_th) H → va_D A (ceM cI cZ th0 th1 th2 th3 th4 th5 th6 th7 th8 th9 u_th) → va_S A s.heap H locs → f_X11_goText_J117 K_37 v1 v2 v4 v6 s0 u_th = some z → W p l e (headSpec wsX11_goText rmX11_goText).room s m ([.ref th0, .int p1, .int p2] : List Value).toArray below meth c H locs 0 0 Q (F0 m 117 ls [.int s0]) := by
    intro K_37 hK_37 v1 v2 v4 v6 s0 u_th H locs ls hl hP hD hS hf
    rw [f_X11_goText_J117] at hf
    refine lv_istore_n (lv' := [(3, .int s0), (0, .ref th0), (1, .int v1), (2, .int v2), (4, .int v4), (6, .int v6)]) hx hb dX11_goText_117 rfl hl (by decide) rfl (fun ls hl => ?_)
    refine lv_aload_n hx hb dX11_goText_118 rfl (lv_at hl 1 rfl) ?_
    refine lv_iload hx hb dX11_goText_119 (lv_at hl 4 rfl) ?_
    refine lv_iload_n hx hb dX11_goText_121 rfl (lv_at hl 3 rfl) ?_
    refine lv_icmp_ne (tgt := 129) hx hb dX11_goText_122 (by decide) (fun c9 => ?_) (fun c9 => ?_)
    · have hf := (if_neg c9).symm.trans hf
      refine lv_aload_n hx hb dX11_goText_129 rfl (lv_at hl 1 rfl) ?_
      refine lv_iload hx hb dX11_goText_130 (lv_at hl 5 rfl) ?_
      obtain ⟨z10, hz_z10, hf⟩ := o_bind hf
      refine k_calli (va_runV (As := [.int v6]) (rest := [.ref th0]) ⟨hx, hb, hml, hown, hts⟩ (c_X11_carOf l D cI cZ th0 th1 th2 th3 th4 th5 th6 th7 th8 th9 H.size u_th v6 z10 hz_z10) (cwV 1 hts gX11_goText_X11_carOf rfl rfl rfl ⟨rfl, hd_X11_carOf⟩ ⟨Nat.le_of_ble_eq_true rfl, Nat.le_of_ble_eq_true rfl⟩) (k_preV hK hP hD hS hA hE [0, 1, 2, 3, 4, 5, 6, 7, 8, 9] (by decide) rfl (ci := 8) rfl rfl) rfl rfl hl.1 rfl (lv_room (Nat.le_of_ble_eq_true rfl)) dX11_goText_132 ⟨Nat.zero_le _, Nat.zero_le _⟩) hP hD hS hA [0, 1, 2, 3, 4, 5, 6, 7, 8, 9] [some 0, some 1, some 2, some 3, some 4, some 5, some 6, some 7, some 8, some 9] 10 rfl (by decide) (by decide) rfl rfl (fun H locs hP hD hS => ?_)
      have hP : va_P D vwCl (ceM cI cZ th0 th1 th2 th3 th4 th5 th6 th7 th8 th9 u_th) H := hP
      have hD : va_D A (ceM cI cZ th0 th1 th2 th3 th4 th5 th6 th7 th8 th9 u_th) := hD
      refine lv_if_lt (tgt := 142) hx hb dX11_goText_135 (by decide) (fun c11 => ?_) (fun c11 => ?_)
      · have hf := (if_pos c11).symm.trans hf
        refine lv_aload_n hx hb dX11_goText_142 rfl (lv_at hl 1 rfl) ?_
        refine va_get (D := D) (ci := 8) (v := .ref th6) (C := RX11) (T := TX11) (N := 17) hx hb hts hi_X11 hown hK hP 0 rfl rfl 12 (by decide) (hts (.fieldLink RX11 29 "FairWheelModel" "now" "[I") (List.mem_of_getElem? (i := 4) rfl)) (fun _ h9 => h9) rfl dX11_goText_143 ?_
        refine lv_aload_n hx hb dX11_goText_146 rfl (lv_at hl 1 rfl) ?_
        refine va_get (D := D) (ci := 8) (v := .int (M_foot u_th)) (C := RX11) (T := TX11) (N := 17) hx hb hts hi_X11 hown hK hP 0 rfl rfl 9 (by decide) (hts (.fieldLink RX11 60 "FairWheelModel" "foot" "I") (List.mem_of_getElem? (i := 5) rfl)) (fun _ h9 => h9) rfl dX11_goText_147 ?_
        by_cases c12 : (M_foot u_th) < 0 ∨ 8 ≤ (M_foot u_th).toNatClampNeg
        · have hf := (if_pos c12).symm.trans hf
          cases hf
        have hf := (if_neg c12).symm.trans hf
        refine va_iald hx hb hK hP 6 0 rfl rfl (show vp_in (M_foot u_th) 8 from c12) dX11_goText_150 ?_
        refine lv_if_lt (tgt := 158) hx hb dX11_goText_151 (by decide) (fun c13 => ?_) (fun c13 => ?_)
        · have hf := (if_pos c13).symm.trans hf
          refine lv_iconst (v := 0) hx hb dX11_goText_158 (by decide) ?_
          exact hJ159 K_37 hK_37 v1 v2 s0 v4 v6 (0 : Int32) u_th _ _ ls (lv_sub hl [1, 2, 3, 0, 4, 5] rfl) hP hD hS hf
        · have hf := (if_neg c13).symm.trans hf
          refine lv_iconst (v := 2) hx hb dX11_goText_154 (by decide) ?_
          refine lv_goto (tgt := 159) hx hb dX11_goText_155 (by decide) ?_
          exact hJ159 K_37 hK_37 v1 v2 s0 v4 v6 (2 : Int32) u_th _ _ ls (lv_sub hl [1, 2, 3, 0, 4, 5] rfl) hP hD hS hf
      · have hf := (if_neg c11).symm.trans hf
        refine lv_iconst (v := 1) hx hb dX11_goText_138 (by decide) ?_
        refine lv_goto (tgt := 159) hx hb dX11_goText_139 (by decide) ?_
        exact hJ159 K_37 hK_37 v1 v2 s0 v4 v6 (1 : Int32) u_th _ _ ls (lv_sub hl [1, 2, 3, 0, 4, 5] rfl) hP hD hS hf
    · have hf := (if_pos c9).symm.trans hf
      refine lv_iconst (v := 0) hx hb dX11_goText_125 (by decide) ?_
      refine lv_goto (tgt := 159) hx hb dX11_goText_126 (by decide) ?_
      exact hJ159 K_37 hK_37 v1 v2 s0 v4 v6 (0 : Int32) u_th _ _ ls (lv_sub hl [1, 2, 3, 0, 4, 5] rfl) hP hD hS hf
  have hJ95 : ∀ (K_37 : Int32 → Int32 → Int32 → Int32 → sM → Option (Int32 × sM)), (∀ (v1 : Int32) (v2 : Int32) (v3 : Int32) (v4 : Int32) (u_th : sM) (H : Heap) (locs : List Loc) (ls : Array Slot), lv_has ls 7 [(0, .ref th0), (1, .int v1), (2, .int v2), (3, .int v3), (4, .int v4)] → va_P D vwCl (ceM cI cZ th0 th1 th2 th3 th4 th5 th6 th7 th8 th9 u_th) H → va_D A (ceM cI cZ th0 th1 th2 th3 th4 th5 th6 th7 th8 th9 u_th) → va_S A s.heap H locs → K_37 v1 v2 v3 v4 u_th = some z → W p l e (headSpec wsX11_goText rmX11_goText).room s m ([.ref th0, .int p1, .int p2] : List Value).toArray below meth c H locs 0 0 Q (F0 m 37 ls [])) → ∀ (v1 : Int32) (v2 : Int32) (v3 : Int32) (v4 : Int32) (v5 : Int32) (s0 : Int32) (u_th : sM) (H : Heap) (locs : List Loc) (ls : Array Slot), lv_has ls 7 [(0, .ref th0), (1, .int v1), (2, .int v2), (3, .int v3), (4, .int v4), (5, .int v5)] → va_P D vwCl (ceM cI cZ th0 th1 th2 th3 th4 th5 th6 th7 th8 th9 u_th) H → va_D A (ceM cI cZ th0 th1 th2 th3 th4 th5 th6 th7 th8 th9 u_th) → va_S A s.heap H locs → f_X11_goText_J95 K_37 v1 v2 v3 v4 v5 s0 u_th = some z → W p l e (headSpec wsX11_goText rmX11_goText).room s m ([.ref th0, .int p1, .int p2] : List Value).toArray below meth c H locs 0 0 Q (F0 m 95 ls [.int s0]) := by
    intro K_37 hK_37 v1 v2 v3 v4 v5 s0 u_th H locs ls hl hP hD hS hf
    rw [f_X11_goText_J95] at hf
    refine lv_istore (lv' := [(6, .int s0), (0, .ref th0), (1, .int v1), (2, .int v2), (3, .int v3), (4, .int v4), (5, .int v5)]) hx hb dX11_goText_95 hl (by decide) rfl (fun ls hl => ?_)
    refine lv_iload hx hb dX11_goText_97 (lv_at hl 6 rfl) ?_
    refine lv_bipush (v := 63) hx hb dX11_goText_99 (by decide) ?_
    refine lv_icmp_ne (tgt := 116) hx hb dX11_goText_101 (by decide) (fun c8 => ?_) (fun c8 => ?_)
    · have hf := (if_neg c8).symm.trans hf
      refine lv_iload_n hx hb dX11_goText_116 rfl (lv_at hl 4 rfl) ?_
      exact hJ117 K_37 hK_37 v1 v2 v4 s0 v3 u_th _ _ ls (lv_sub hl [1, 2, 3, 5, 0] rfl) hP hD hS hf
    · have hf := (if_pos c8).symm.trans hf
      refine lv_iload_n hx hb dX11_goText_104 rfl (lv_at hl 4 rfl) ?_
      refine lv_iconst (v := 1) hx hb dX11_goText_105 (by decide) ?_
      refine lv_icmp_le (tgt := 116) hx hb dX11_goText_106 (by decide) (fun c19 => ?_) (fun c19 => ?_)
      · have hf := (if_pos c19).symm.trans hf
        refine lv_iload_n hx hb dX11_goText_116 rfl (lv_at hl 4 rfl) ?_
        exact hJ117 K_37 hK_37 v1 v2 v4 s0 v3 u_th _ _ ls (lv_sub hl [1, 2, 3, 5, 0] rfl) hP hD hS hf
      · have hf := (if_neg c19).symm.trans hf
        refine lv_iload_n hx hb dX11_goText_109 rfl (lv_at hl 4 rfl) ?_
        refine lv_bipush (v := 8) hx hb dX11_goText_110 (by decide) ?_
        refine lv_idiv hx hb dX11_goText_112 (by decide) ?_
        refine lv_goto (tgt := 117) hx hb dX11_goText_113 (by decide) ?_
        exact hJ117 K_37 hK_37 v1 v2 v4 s0 (v3 / (8 : Int32)) u_th _ _ ls (lv_sub hl [1, 2, 3, 5, 0] rfl) hP hD hS hf
  have hJ74 : ∀ (K_37 : Int32 → Int32 → Int32 → Int32 → sM → Option (Int32 × sM)), (∀ (v1 : Int32) (v2 : Int32) (v3 : Int32) (v4 : Int32) (u_th : sM) (H : Heap) (locs : List Loc) (ls : Array Slot), lv_has ls 7 [(0, .ref th0), (1, .int v1), (2, .int v2), (3, .int v3), (4, .int v4)] → va_P D vwCl (ceM cI cZ th0 th1 th2 th3 th4 th5 th6 th7 th8 th9 u_th) H → va_D A (ceM cI cZ th0 th1 th2 th3 th4 th5 th6 th7 th8 th9 u_th) → va_S A s.heap H locs → K_37 v1 v2 v3 v4 u_th = some z → W p l e (headSpec wsX11_goText rmX11_goText).room s m ([.ref th0, .int p1, .int p2] : List Value).toArray below meth c H locs 0 0 Q (F0 m 37 ls [])) → ∀ (v1 : Int32) (v2 : Int32) (v3 : Int32) (v4 : Int32) (v5 : Int32) (u_th : sM) (H : Heap) (locs : List Loc) (ls : Array Slot), lv_has ls 7 [(0, .ref th0), (1, .int v1), (2, .int v2), (3, .int v3), (4, .int v4), (5, .int v5)] → va_P D vwCl (ceM cI cZ th0 th1 th2 th3 th4 th5 th6 th7 th8 th9 u_th) H → va_D A (ceM cI cZ th0 th1 th2 th3 th4 th5 th6 th7 th8 th9 u_th) → va_S A s.heap H locs → f_X11_goText_J74 K_37 v1 v2 v3 v4 v5 u_th = some z → W p l e (headSpec wsX11_goText rmX11_goText).room s m ([.ref th0, .int p1, .int p2] : List Value).toArray below meth c H locs 0 0 Q (F0 m 74 ls []) := by
    intro K_37 hK_37 v1 v2 v3 v4 v5 u_th H locs ls hl hP hD hS hf
    rw [f_X11_goText_J74] at hf
    refine lv_iload hx hb dX11_goText_74 (lv_at hl 5 rfl) ?_
    refine lv_bipush (v := 63) hx hb dX11_goText_76 (by decide) ?_
    refine lv_icmp_ne (tgt := 90) hx hb dX11_goText_78 (by decide) (fun c7 => ?_) (fun c7 => ?_)
    · have hf := (if_neg c7).symm.trans hf
      refine lv_iload hx hb dX11_goText_90 (lv_at hl 5 rfl) ?_
      refine lv_bipush (v := 65) hx hb dX11_goText_92 (by decide) ?_
      refine lv_isub hx hb dX11_goText_94 ?_
      exact hJ95 K_37 hK_37 v1 v2 v3 v4 v5 (v5 - (65 : Int32)) u_th _ _ ls (lv_sub hl [0, 1, 2, 3, 4, 5] rfl) hP hD hS hf
    · have hf := (if_pos c7).symm.trans hf
      refine lv_iload_n hx hb dX11_goText_81 rfl (lv_at hl 1 rfl) ?_
      refine lv_iload_n hx hb dX11_goText_82 rfl (lv_at hl 3 rfl) ?_
      by_cases c20 : v3 = 0
      · have hf := (if_pos c20).symm.trans hf
        cases hf
      have hf := (if_neg c20).symm.trans hf
      refine lv_idiv hx hb dX11_goText_83 c20 ?_
      refine lv_bipush (v := 8) hx hb dX11_goText_84 (by decide) ?_
      refine lv_irem hx hb dX11_goText_86 (by decide) ?_
      refine lv_goto (tgt := 95) hx hb dX11_goText_87 (by decide) ?_
      exact hJ95 K_37 hK_37 v1 v2 v3 v4 v5 ((v1 / v3) - (v1 / v3) / (8 : Int32) * (8 : Int32)) u_th _ _ ls (lv_sub hl [0, 1, 2, 3, 4, 5] rfl) hP hD hS hf
  have hJ316 : ∀ (K_37 : Int32 → Int32 → Int32 → Int32 → sM → Option (Int32 × sM)), (∀ (v1 : Int32) (v2 : Int32) (v3 : Int32) (v4 : Int32) (u_th : sM) (H : Heap) (locs : List Loc) (ls : Array Slot), lv_has ls 7 [(0, .ref th0), (1, .int v1), (2, .int v2), (3, .int v3), (4, .int v4)] → va_P D vwCl (ceM cI cZ th0 th1 th2 th3 th4 th5 th6 th7 th8 th9 u_th) H → va_D A (ceM cI cZ th0 th1 th2 th3 th4 th5 th6 th7 th8 th9 u_th) → va_S A s.heap H locs → K_37 v1 v2 v3 v4 u_th = some z → W p l e (headSpec wsX11_goText rmX11_goText).room s m ([.ref th0, .int p1, .int p2] : List Value).toArray below meth c H locs 0 0 Q (F0 m 37 ls [])) → ∀ (v1 : Int32) (v2 : Int32) (v3 : Int32) (v4 : Int32) (s1 : Int32) (s2 : Int32) (u_th : sM) (H : Heap) (locs : List Loc) (ls : Array Slot), lv_has ls 7 [(0, .ref th0), (1, .int v1), (2, .int v2), (3, .int v3), (4, .int v4)] → va_P D vwCl (ceM cI cZ th0 th1 th2 th3 th4 th5 th6 th7 th8 th9 u_th) H → va_D A (ceM cI cZ th0 th1 th2 th3 th4 th5 th6 th7 th8 th9 u_th) → va_S A s.heap H locs → f_X11_goText_J316 K_37 v1 v2 v3 v4 s1 s2 u_th = some z → W p l e (headSpec wsX11_goText rmX11_goText).room s m ([.ref th0, .int p1, .int p2] : List Value).toArray below meth c H locs 0 0 Q (F0 m 316 ls [.int s2, .int s1, .ref th0]) := by
    intro K_37 hK_37 v1 v2 v3 v4 s1 s2 u_th H locs ls hl hP hD hS hf
    rw [f_X11_goText_J316] at hf
    refine lv_iadd hx hb dX11_goText_316 ?_
    refine lv_bipush (v := 8) hx hb dX11_goText_317 (by decide) ?_
    refine lv_irem hx hb dX11_goText_319 (by decide) ?_
    refine va_put (D := D) (ci := 8) (v := .int ((s1 + s2) - (s1 + s2) / (8 : Int32) * (8 : Int32))) (ty := .int) (C := RX11) (T := TX11) (N := 17) hx hb hts hi_X11 tyX11 tyX11_ok nmX11 hown hK hP hD hS 0 rfl rfl 9 (by decide) (hts (.fieldLink RX11 60 "FairWheelModel" "foot" "I") (List.mem_of_getElem? (i := 5) rfl)) (fun _ h9 => h9) rfl (by decide +kernel) rfl rfl (Nat.le_of_ble_eq_true rfl) dX11_goText_320 (fun H locs hP hD hS => ?_)
    have hP : va_P D vwCl (ceM cI cZ th0 th1 th2 th3 th4 th5 th6 th7 th8 th9 ((M_weight u_th), (M_sits u_th), (M_stones u_th), (M_at u_th), (M_drag u_th), (M_sights u_th), (M_sight u_th), (M_signs u_th), (M_pad u_th), ((s1 + s2) - (s1 + s2) / (8 : Int32) * (8 : Int32)), (M_turned u_th), (M_bothWays u_th), (M_now u_th), (M_heap u_th), (M_reason u_th), (M_image u_th), (M_isKept u_th))) H := hP
    have hD : va_D A (ceM cI cZ th0 th1 th2 th3 th4 th5 th6 th7 th8 th9 ((M_weight u_th), (M_sits u_th), (M_stones u_th), (M_at u_th), (M_drag u_th), (M_sights u_th), (M_sight u_th), (M_signs u_th), (M_pad u_th), ((s1 + s2) - (s1 + s2) / (8 : Int32) * (8 : Int32)), (M_turned u_th), (M_bothWays u_th), (M_now u_th), (M_heap u_th), (M_reason u_th), (M_image u_th), (M_isKept u_th))) := hD
    refine lv_goto (tgt := 447) hx hb dX11_goText_323 (by decide) ?_
    exact hJ447 K_37 hK_37 v1 v2 v3 v4 ((M_weight u_th), (M_sits u_th), (M_stones u_th), (M_at u_th), (M_drag u_th), (M_sights u_th), (M_sight u_th), (M_signs u_th), (M_pad u_th), ((s1 + s2) - (s1 + s2) / (8 : Int32) * (8 : Int32)), (M_turned u_th), (M_bothWays u_th), (M_now u_th), (M_heap u_th), (M_reason u_th), (M_image u_th), (M_isKept u_th)) _ _ ls (lv_sub hl [0, 1, 2, 3, 4] rfl) hP hD hS hf
  have hJ298 : ∀ (K_37 : Int32 → Int32 → Int32 → Int32 → sM → Option (Int32 × sM)), (∀ (v1 : Int32) (v2 : Int32) (v3 : Int32) (v4 : Int32) (u_th : sM) (H : Heap) (locs : List Loc) (ls : Array Slot), lv_has ls 7 [(0, .ref th0), (1, .int v1), (2, .int v2), (3, .int v3), (4, .int v4)] → va_P D vwCl (ceM cI cZ th0 th1 th2 th3 th4 th5 th6 th7 th8 th9 u_th) H → va_D A (ceM cI cZ th0 th1 th2 th3 th4 th5 th6 th7 th8 th9 u_th) → va_S A s.heap H locs → K_37 v1 v2 v3 v4 u_th = some z → W p l e (headSpec wsX11_goText rmX11_goText).room s m ([.ref th0, .int p1, .int p2] : List Value).toArray below meth c H locs 0 0 Q (F0 m 37 ls [])) → ∀ (v1 : Int32) (v2 : Int32) (v3 : Int32) (v4 : Int32) (v5 : Int32) (u_th : sM) (H : Heap) (locs : List Loc) (ls : Array Slot), lv_has ls 7 [(0, .ref th0), (1, .int v1), (2, .int v2), (3, .int v3), (4, .int v4), (5, .int v5)] → va_P D vwCl (ceM cI cZ th0 th1 th2 th3 th4 th5 th6 th7 th8 th9 u_th) H → va_D A (ceM cI cZ th0 th1 th2 th3 th4 th5 th6 th7 th8 th9 u_th) → va_S A s.heap H locs → f_X11_goText_J298 K_37 v1 v2 v3 v4 v5 u_th = some z → W p l e (headSpec wsX11_goText rmX11_goText).room s m ([.ref th0, .int p1, .int p2] : List Value).toArray below meth c H locs 0 0 Q (F0 m 298 ls []) := by
    intro K_37 hK_37 v1 v2 v3 v4 v5 u_th H locs ls hl hP hD hS hf
    rw [f_X11_goText_J298] at hf
    refine lv_aload_n hx hb dX11_goText_298 rfl (lv_at hl 0 rfl) ?_
    refine lv_aload_n hx hb dX11_goText_299 rfl (lv_at hl 0 rfl) ?_
    refine va_get (D := D) (ci := 8) (v := .int (M_foot u_th)) (C := RX11) (T := TX11) (N := 17) hx hb hts hi_X11 hown hK hP 0 rfl rfl 9 (by decide) (hts (.fieldLink RX11 60 "FairWheelModel" "foot" "I") (List.mem_of_getElem? (i := 5) rfl)) (fun _ h9 => h9) rfl dX11_goText_300 ?_
    refine lv_iload hx hb dX11_goText_303 (lv_at hl 5 rfl) ?_
    refine lv_bipush (v := 62) hx hb dX11_goText_305 (by decide) ?_
    refine lv_icmp_ne (tgt := 314) hx hb dX11_goText_307 (by decide) (fun c26 => ?_) (fun c26 => ?_)
    · have hf := (if_neg c26).symm.trans hf
      refine lv_bipush (v := 7) hx hb dX11_goText_314 (by decide) ?_
      exact hJ316 K_37 hK_37 v1 v2 v3 v4 (M_foot u_th) (7 : Int32) u_th _ _ ls (lv_sub hl [0, 1, 2, 3, 4] rfl) hP hD hS hf
    · have hf := (if_pos c26).symm.trans hf
      refine lv_iconst (v := 1) hx hb dX11_goText_310 (by decide) ?_
      refine lv_goto (tgt := 316) hx hb dX11_goText_311 (by decide) ?_
      exact hJ316 K_37 hK_37 v1 v2 v3 v4 (M_foot u_th) (1 : Int32) u_th _ _ ls (lv_sub hl [0, 1, 2, 3, 4] rfl) hP hD hS hf
  have hJ445 : ∀ (K_37 : Int32 → Int32 → Int32 → Int32 → sM → Option (Int32 × sM)), (∀ (v1 : Int32) (v2 : Int32) (v3 : Int32) (v4 : Int32) (u_th : sM) (H : Heap) (locs : List Loc) (ls : Array Slot), lv_has ls 7 [(0, .ref th0), (1, .int v1), (2, .int v2), (3, .int v3), (4, .int v4)] → va_P D vwCl (ceM cI cZ th0 th1 th2 th3 th4 th5 th6 th7 th8 th9 u_th) H → va_D A (ceM cI cZ th0 th1 th2 th3 th4 th5 th6 th7 th8 th9 u_th) → va_S A s.heap H locs → K_37 v1 v2 v3 v4 u_th = some z → W p l e (headSpec wsX11_goText rmX11_goText).room s m ([.ref th0, .int p1, .int p2] : List Value).toArray below meth c H locs 0 0 Q (F0 m 37 ls [])) → ∀ (v1 : Int32) (v2 : Int32) (v3 : Int32) (v4 : Int32) (s1 : Int32) (s2 : Int32) (s3 : Int32) (u_th : sM) (H : Heap) (locs : List Loc) (ls : Array Slot), lv_has ls 7 [(0, .ref th0), (1, .int v1), (2, .int v2), (3, .int v3), (4, .int v4)] → va_P D vwCl (ceM cI cZ th0 th1 th2 th3 th4 th5 th6 th7 th8 th9 u_th) H → va_D A (ceM cI cZ th0 th1 th2 th3 th4 th5 th6 th7 th8 th9 u_th) → va_S A s.heap H locs → f_X11_goText_J445 K_37 v1 v2 v3 v4 s1 s2 s3 u_th = some z → W p l e (headSpec wsX11_goText rmX11_goText).room s m ([.ref th0, .int p1, .int p2] : List Value).toArray below meth c H locs 0 0 Q (F0 m 445 ls [.int s3, .int s2, .int s1, .ref th7]) := by
    intro K_37 hK_37 v1 v2 v3 v4 s1 s2 s3 u_th H locs ls hl hP hD hS hf
    rw [f_X11_goText_J445] at hf
    refine lv_iadd hx hb dX11_goText_445 ?_
    by_cases c33 : s1 < 0 ∨ 8 ≤ s1.toNatClampNeg
    · have hf := (if_pos c33).symm.trans hf
      cases hf
    have hf := (if_neg c33).symm.trans hf
    refine va_iast hx hb hK hP hD hS 7 0 rfl rfl (show vp_in s1 8 from c33) dX11_goText_446 (fun H locs hP hD hS => ?_)
    have hP : va_P D vwCl (ceM cI cZ th0 th1 th2 th3 th4 th5 th6 th7 th8 th9 ((M_weight u_th), (M_sits u_th), (M_stones u_th), (M_at u_th), (M_drag u_th), (M_sights u_th), (M_sight u_th), (M_signs u_th), (M_pad u_th), (M_foot u_th), (M_turned u_th), (M_bothWays u_th), (M_now u_th), (upd (M_heap u_th) s1.toNatClampNeg (s2 + s3)), (M_reason u_th), (M_image u_th), (M_isKept u_th))) H := hP
    have hD : va_D A (ceM cI cZ th0 th1 th2 th3 th4 th5 th6 th7 th8 th9 ((M_weight u_th), (M_sits u_th), (M_stones u_th), (M_at u_th), (M_drag u_th), (M_sights u_th), (M_sight u_th), (M_signs u_th), (M_pad u_th), (M_foot u_th), (M_turned u_th), (M_bothWays u_th), (M_now u_th), (upd (M_heap u_th) s1.toNatClampNeg (s2 + s3)), (M_reason u_th), (M_image u_th), (M_isKept u_th))) := hD
    exact hJ447 K_37 hK_37 v1 v2 v3 v4 ((M_weight u_th), (M_sits u_th), (M_stones u_th), (M_at u_th), (M_drag u_th), (M_sights u_th), (M_sight u_th), (M_signs u_th), (M_pad u_th), (M_foot u_th), (M_turned u_th), (M_bothWays u_th), (M_now u_th), (upd (M_heap u_th) s1.toNatClampNeg (s2 + s3)), (M_reason u_th), (M_image u_th), (M_isKept u_th)) _ _ ls (lv_sub hl [0, 1, 2, 3, 4] rfl) hP hD hS hf
  have hJ410 : ∀ (K_37 : Int32 → Int32 → Int32 → Int32 → sM → Option (Int32 × sM)), (∀ (v1 : Int32) (v2 : Int32) (v3 : Int32) (v4 : Int32) (u_th : sM) (H : Heap) (locs : List Loc) (ls : Array Slot), lv_has ls 7 [(0, .ref th0), (1, .int v1), (2, .int v2), (3, .int v3), (4, .int v4)] → va_P D vwCl (ceM cI cZ th0 th1 th2 th3 th4 th5 th6 th7 th8 th9 u_th) H → va_D A (ceM cI cZ th0 th1 th2 th3 th4 th5 th6 th7 th8 th9 u_th) → va_S A s.heap H locs → K_37 v1 v2 v3 v4 u_th = some z → W p l e (headSpec wsX11_goText rmX11_goText).room s m ([.ref th0, .int p1, .int p2] : List Value).toArray below meth c H locs 0 0 Q (F0 m 37 ls [])) → ∀ (v1 : Int32) (v2 : Int32) (v3 : Int32) (v4 : Int32) (v5 : Int32) (s1 : Int32) (u_th : sM) (H : Heap) (locs : List Loc) (ls : Array Slot), lv_has ls 7 [(0, .ref th0), (1, .int v1), (2, .int v2), (3, .int v3), (4, .int v4), (5, .int v5)] → va_P D vwCl (ceM cI cZ th0 th1 th2 th3 th4 th5 th6 th7 th8 th9 u_th) H → va_D A (ceM cI cZ th0 th1 th2 th3 th4 th5 th6 th7 th8 th9 u_th) → va_S A s.heap H locs → f_X11_goText_J410 K_37 v1 v2 v3 v4 v5 s1 u_th = some z → W p l e (headSpec wsX11_goText rmX11_goText).room s m ([.ref th0, .int p1, .int p2] : List Value).toArray below meth c H locs 0 0 Q (F0 m 410 ls [.int s1, .ref th0]) := by
    intro K_37 hK_37 v1 v2 v3 v4 v5 s1 u_th H locs ls hl hP hD hS hf
    rw [f_X11_goText_J410] at hf
    refine va_put (D := D) (ci := 8) (v := .int s1) (ty := .int) (C := RX11) (T := TX11) (N := 17) hx hb hts hi_X11 tyX11 tyX11_ok nmX11 hown hK hP hD hS 0 rfl rfl 14 (by decide) (hts (.fieldLink RX11 79 "FairWheelModel" "reason" "I") (List.mem_of_getElem? (i := 1) rfl)) (fun _ h9 => h9) rfl (by decide +kernel) rfl rfl (Nat.le_of_ble_eq_true rfl) dX11_goText_410 (fun H locs hP hD hS => ?_)
    have hP : va_P D vwCl (ceM cI cZ th0 th1 th2 th3 th4 th5 th6 th7 th8 th9 ((M_weight u_th), (M_sits u_th), (M_stones u_th), (M_at u_th), (M_drag u_th), (M_sights u_th), (M_sight u_th), (M_signs u_th), (M_pad u_th), (M_foot u_th), (M_turned u_th), (M_bothWays u_th), (M_now u_th), (M_heap u_th), s1, (M_image u_th), (M_isKept u_th))) H := hP
    have hD : va_D A (ceM cI cZ th0 th1 th2 th3 th4 th5 th6 th7 th8 th9 ((M_weight u_th), (M_sits u_th), (M_stones u_th), (M_at u_th), (M_drag u_th), (M_sights u_th), (M_sight u_th), (M_signs u_th), (M_pad u_th), (M_foot u_th), (M_turned u_th), (M_bothWays u_th), (M_now u_th), (M_heap u_th), s1, (M_image u_th), (M_isKept u_th))) := hD
    refine lv_aload_n hx hb dX11_goText_413 rfl (lv_at hl 0 rfl) ?_
    refine va_get (D := D) (ci := 8) (v := .ref th7) (C := RX11) (T := TX11) (N := 17) hx hb hts hi_X11 hown hK hP 0 rfl rfl 13 (by decide) (hts (.fieldLink RX11 32 "FairWheelModel" "heap" "[I") (List.mem_of_getElem? (i := 6) rfl)) (fun _ h9 => h9) rfl dX11_goText_414 ?_
    refine lv_aload_n hx hb dX11_goText_417 rfl (lv_at hl 0 rfl) ?_
    refine va_get (D := D) (ci := 8) (v := .int (M_foot u_th)) (C := RX11) (T := TX11) (N := 17) hx hb hts hi_X11 hown hK hP 0 rfl rfl 9 (by decide) (hts (.fieldLink RX11 60 "FairWheelModel" "foot" "I") (List.mem_of_getElem? (i := 5) rfl)) (fun _ h9 => h9) rfl dX11_goText_418 ?_
    refine lv_dup2_11 hx hb dX11_goText_421 rfl rfl ?_
    by_cases c31 : (M_foot u_th) < 0 ∨ 8 ≤ (M_foot u_th).toNatClampNeg
    · have hf := (if_pos c31).symm.trans hf
      cases hf
    have hf := (if_neg c31).symm.trans hf
    refine va_iald hx hb hK hP 7 0 rfl rfl (show vp_in (M_foot u_th) 8 from c31) dX11_goText_422 ?_
    refine lv_aload_n hx hb dX11_goText_423 rfl (lv_at hl 0 rfl) ?_
    refine va_get (D := D) (ci := 8) (v := .int s1) (C := RX11) (T := TX11) (N := 17) hx hb hts hi_X11 hown hK hP 0 rfl rfl 14 (by decide) (hts (.fieldLink RX11 79 "FairWheelModel" "reason" "I") (List.mem_of_getElem? (i := 1) rfl)) (fun _ h9 => h9) rfl dX11_goText_424 ?_
    refine lv_if_ne (tgt := 444) hx hb dX11_goText_427 (by decide) (fun c32 => ?_) (fun c32 => ?_)
    · have hf := (if_neg c32).symm.trans hf
      refine lv_iconst (v := 0) hx hb dX11_goText_444 (by decide) ?_
      exact hJ445 K_37 hK_37 v1 v2 v3 v4 (M_foot u_th) ((M_heap u_th) (M_foot u_th).toNatClampNeg) (0 : Int32) ((M_weight u_th), (M_sits u_th), (M_stones u_th), (M_at u_th), (M_drag u_th), (M_sights u_th), (M_sight u_th), (M_signs u_th), (M_pad u_th), (M_foot u_th), (M_turned u_th), (M_bothWays u_th), (M_now u_th), (M_heap u_th), s1, (M_image u_th), (M_isKept u_th)) _ _ ls (lv_sub hl [0, 1, 2, 3, 4] rfl) hP hD hS hf
    · have hf := (if_pos c32).symm.trans hf
      refine lv_iload hx hb dX11_goText_430 (lv_at hl 4 rfl) ?_
      refine lv_iload_n hx hb dX11_goText_432 rfl (lv_at hl 2 rfl) ?_
      refine lv_icmp_eq (tgt := 444) hx hb dX11_goText_433 (by decide) (fun c34 => ?_) (fun c34 => ?_)
      · have hf := (if_pos c34).symm.trans hf
        refine lv_iconst (v := 0) hx hb dX11_goText_444 (by decide) ?_
        exact hJ445 K_37 hK_37 v1 v2 v3 v4 (M_foot u_th) ((M_heap u_th) (M_foot u_th).toNatClampNeg) (0 : Int32) ((M_weight u_th), (M_sits u_th), (M_stones u_th), (M_at u_th), (M_drag u_th), (M_sights u_th), (M_sight u_th), (M_signs u_th), (M_pad u_th), (M_foot u_th), (M_turned u_th), (M_bothWays u_th), (M_now u_th), (M_heap u_th), s1, (M_image u_th), (M_isKept u_th)) _ _ ls (lv_sub hl [0, 1, 2, 3, 4] rfl) hP hD hS hf
      · have hf := (if_neg c34).symm.trans hf
        refine lv_iload hx hb dX11_goText_436 (lv_at hl 5 rfl) ?_
        refine lv_bipush (v := 48) hx hb dX11_goText_438 (by decide) ?_
        refine lv_isub hx hb dX11_goText_440 ?_
        refine lv_goto (tgt := 445) hx hb dX11_goText_441 (by decide) ?_
        exact hJ445 K_37 hK_37 v1 v2 v3 v4 (M_foot u_th) ((M_heap u_th) (M_foot u_th).toNatClampNeg) (v5 - (48 : Int32)) ((M_weight u_th), (M_sits u_th), (M_stones u_th), (M_at u_th), (M_drag u_th), (M_sights u_th), (M_sight u_th), (M_signs u_th), (M_pad u_th), (M_foot u_th), (M_turned u_th), (M_bothWays u_th), (M_now u_th), (M_heap u_th), s1, (M_image u_th), (M_isKept u_th)) _ _ ls (lv_sub hl [0, 1, 2, 3, 4] rfl) hP hD hS hf
  have hJ374 : ∀ (K_37 : Int32 → Int32 → Int32 → Int32 → sM → Option (Int32 × sM)), (∀ (v1 : Int32) (v2 : Int32) (v3 : Int32) (v4 : Int32) (u_th : sM) (H : Heap) (locs : List Loc) (ls : Array Slot), lv_has ls 7 [(0, .ref th0), (1, .int v1), (2, .int v2), (3, .int v3), (4, .int v4)] → va_P D vwCl (ceM cI cZ th0 th1 th2 th3 th4 th5 th6 th7 th8 th9 u_th) H → va_D A (ceM cI cZ th0 th1 th2 th3 th4 th5 th6 th7 th8 th9 u_th) → va_S A s.heap H locs → K_37 v1 v2 v3 v4 u_th = some z → W p l e (headSpec wsX11_goText rmX11_goText).room s m ([.ref th0, .int p1, .int p2] : List Value).toArray below meth c H locs 0 0 Q (F0 m 37 ls [])) → ∀ (v1 : Int32) (v2 : Int32) (v3 : Int32) (v4 : Int32) (s1 : Int32) (s2 : Int32) (u_th : sM) (H : Heap) (locs : List Loc) (ls : Array Slot), lv_has ls 7 [(0, .ref th0), (1, .int v1), (2, .int v2), (3, .int v3), (4, .int v4)] → va_P D vwCl (ceM cI cZ th0 th1 th2 th3 th4 th5 th6 th7 th8 th9 u_th) H → va_D A (ceM cI cZ th0 th1 th2 th3 th4 th5 th6 th7 th8 th9 u_th) → va_S A s.heap H locs → f_X11_goText_J374 K_37 v1 v2 v3 v4 s1 s2 u_th = some z → W p l e (headSpec wsX11_goText rmX11_goText).room s m ([.ref th0, .int p1, .int p2] : List Value).toArray below meth c H locs 0 0 Q (F0 m 374 ls [.int s2, .int s1, .ref th7]) := by
    intro K_37 hK_37 v1 v2 v3 v4 s1 s2 u_th H locs ls hl hP hD hS hf
    rw [f_X11_goText_J374] at hf
    by_cases c38 : s1 < 0 ∨ 8 ≤ s1.toNatClampNeg
    · have hf := (if_pos c38).symm.trans hf
      cases hf
    have hf := (if_neg c38).symm.trans hf
    refine va_iast hx hb hK hP hD hS 7 0 rfl rfl (show vp_in s1 8 from c38) dX11_goText_374 (fun H locs hP hD hS => ?_)
    have hP : va_P D vwCl (ceM cI cZ th0 th1 th2 th3 th4 th5 th6 th7 th8 th9 ((M_weight u_th), (M_sits u_th), (M_stones u_th), (M_at u_th), (M_drag u_th), (M_sights u_th), (M_sight u_th), (M_signs u_th), (M_pad u_th), (M_foot u_th), (M_turned u_th), (M_bothWays u_th), (M_now u_th), (upd (M_heap u_th) s1.toNatClampNeg s2), (M_reason u_th), (M_image u_th), (M_isKept u_th))) H := hP
    have hD : va_D A (ceM cI cZ th0 th1 th2 th3 th4 th5 th6 th7 th8 th9 ((M_weight u_th), (M_sits u_th), (M_stones u_th), (M_at u_th), (M_drag u_th), (M_sights u_th), (M_sight u_th), (M_signs u_th), (M_pad u_th), (M_foot u_th), (M_turned u_th), (M_bothWays u_th), (M_now u_th), (upd (M_heap u_th) s1.toNatClampNeg s2), (M_reason u_th), (M_image u_th), (M_isKept u_th))) := hD
    refine lv_goto (tgt := 447) hx hb dX11_goText_375 (by decide) ?_
    exact hJ447 K_37 hK_37 v1 v2 v3 v4 ((M_weight u_th), (M_sits u_th), (M_stones u_th), (M_at u_th), (M_drag u_th), (M_sights u_th), (M_sight u_th), (M_signs u_th), (M_pad u_th), (M_foot u_th), (M_turned u_th), (M_bothWays u_th), (M_now u_th), (upd (M_heap u_th) s1.toNatClampNeg s2), (M_reason u_th), (M_image u_th), (M_isKept u_th)) _ _ ls (lv_sub hl [0, 1, 2, 3, 4] rfl) hP hD hS hf
  have hJ280 : ∀ (K_37 : Int32 → Int32 → Int32 → Int32 → sM → Option (Int32 × sM)), (∀ (v1 : Int32) (v2 : Int32) (v3 : Int32) (v4 : Int32) (u_th : sM) (H : Heap) (locs : List Loc) (ls : Array Slot), lv_has ls 7 [(0, .ref th0), (1, .int v1), (2, .int v2), (3, .int v3), (4, .int v4)] → va_P D vwCl (ceM cI cZ th0 th1 th2 th3 th4 th5 th6 th7 th8 th9 u_th) H → va_D A (ceM cI cZ th0 th1 th2 th3 th4 th5 th6 th7 th8 th9 u_th) → va_S A s.heap H locs → K_37 v1 v2 v3 v4 u_th = some z → W p l e (headSpec wsX11_goText rmX11_goText).room s m ([.ref th0, .int p1, .int p2] : List Value).toArray below meth c H locs 0 0 Q (F0 m 37 ls [])) → ∀ (v1 : Int32) (v2 : Int32) (v3 : Int32) (v4 : Int32) (s1 : Int32) (s2 : Int32) (u_th : sM) (H : Heap) (locs : List Loc) (ls : Array Slot), lv_has ls 7 [(0, .ref th0), (1, .int v1), (2, .int v2), (3, .int v3), (4, .int v4)] → va_P D vwCl (ceM cI cZ th0 th1 th2 th3 th4 th5 th6 th7 th8 th9 u_th) H → va_D A (ceM cI cZ th0 th1 th2 th3 th4 th5 th6 th7 th8 th9 u_th) → va_S A s.heap H locs → f_X11_goText_J280 K_37 v1 v2 v3 v4 s1 s2 u_th = some z → W p l e (headSpec wsX11_goText rmX11_goText).room s m ([.ref th0, .int p1, .int p2] : List Value).toArray below meth c H locs 0 0 Q (F0 m 280 ls [.int s2, .int s1, .ref th6]) := by
    intro K_37 hK_37 v1 v2 v3 v4 s1 s2 u_th H locs ls hl hP hD hS hf
    rw [f_X11_goText_J280] at hf
    by_cases c44 : s1 < 0 ∨ 8 ≤ s1.toNatClampNeg
    · have hf := (if_pos c44).symm.trans hf
      cases hf
    have hf := (if_neg c44).symm.trans hf
    refine va_iast hx hb hK hP hD hS 6 0 rfl rfl (show vp_in s1 8 from c44) dX11_goText_280 (fun H locs hP hD hS => ?_)
    have hP : va_P D vwCl (ceM cI cZ th0 th1 th2 th3 th4 th5 th6 th7 th8 th9 ((M_weight u_th), (M_sits u_th), (M_stones u_th), (M_at u_th), (M_drag u_th), (M_sights u_th), (M_sight u_th), (M_signs u_th), (M_pad u_th), (M_foot u_th), (M_turned u_th), (M_bothWays u_th), (upd (M_now u_th) s1.toNatClampNeg s2), (M_heap u_th), (M_reason u_th), (M_image u_th), (M_isKept u_th))) H := hP
    have hD : va_D A (ceM cI cZ th0 th1 th2 th3 th4 th5 th6 th7 th8 th9 ((M_weight u_th), (M_sits u_th), (M_stones u_th), (M_at u_th), (M_drag u_th), (M_sights u_th), (M_sight u_th), (M_signs u_th), (M_pad u_th), (M_foot u_th), (M_turned u_th), (M_bothWays u_th), (upd (M_now u_th) s1.toNatClampNeg s2), (M_heap u_th), (M_reason u_th), (M_image u_th), (M_isKept u_th))) := hD
    refine lv_goto (tgt := 447) hx hb dX11_goText_281 (by decide) ?_
    exact hJ447 K_37 hK_37 v1 v2 v3 v4 ((M_weight u_th), (M_sits u_th), (M_stones u_th), (M_at u_th), (M_drag u_th), (M_sights u_th), (M_sight u_th), (M_signs u_th), (M_pad u_th), (M_foot u_th), (M_turned u_th), (M_bothWays u_th), (upd (M_now u_th) s1.toNatClampNeg s2), (M_heap u_th), (M_reason u_th), (M_image u_th), (M_isKept u_th)) _ _ ls (lv_sub hl [0, 1, 2, 3, 4] rfl) hP hD hS hf
  have hJ271 : ∀ (K_37 : Int32 → Int32 → Int32 → Int32 → sM → Option (Int32 × sM)), (∀ (v1 : Int32) (v2 : Int32) (v3 : Int32) (v4 : Int32) (u_th : sM) (H : Heap) (locs : List Loc) (ls : Array Slot), lv_has ls 7 [(0, .ref th0), (1, .int v1), (2, .int v2), (3, .int v3), (4, .int v4)] → va_P D vwCl (ceM cI cZ th0 th1 th2 th3 th4 th5 th6 th7 th8 th9 u_th) H → va_D A (ceM cI cZ th0 th1 th2 th3 th4 th5 th6 th7 th8 th9 u_th) → va_S A s.heap H locs → K_37 v1 v2 v3 v4 u_th = some z → W p l e (headSpec wsX11_goText rmX11_goText).room s m ([.ref th0, .int p1, .int p2] : List Value).toArray below meth c H locs 0 0 Q (F0 m 37 ls [])) → ∀ (v1 : Int32) (v2 : Int32) (v3 : Int32) (v4 : Int32) (s1 : Int32) (u_th : sM) (H : Heap) (locs : List Loc) (ls : Array Slot), lv_has ls 7 [(0, .ref th0), (1, .int v1), (2, .int v2), (3, .int v3), (4, .int v4)] → va_P D vwCl (ceM cI cZ th0 th1 th2 th3 th4 th5 th6 th7 th8 th9 u_th) H → va_D A (ceM cI cZ th0 th1 th2 th3 th4 th5 th6 th7 th8 th9 u_th) → va_S A s.heap H locs → f_X11_goText_J271 K_37 v1 v2 v3 v4 s1 u_th = some z → W p l e (headSpec wsX11_goText rmX11_goText).room s m ([.ref th0, .int p1, .int p2] : List Value).toArray below meth c H locs 0 0 Q (F0 m 271 ls [.int s1, .ref th6]) := by
    intro K_37 hK_37 v1 v2 v3 v4 s1 u_th H locs ls hl hP hD hS hf
    rw [f_X11_goText_J271] at hf
    refine lv_aload_n hx hb dX11_goText_271 rfl (lv_at hl 0 rfl) ?_
    refine va_get (D := D) (ci := 8) (v := .ref th6) (C := RX11) (T := TX11) (N := 17) hx hb hts hi_X11 hown hK hP 0 rfl rfl 12 (by decide) (hts (.fieldLink RX11 29 "FairWheelModel" "now" "[I") (List.mem_of_getElem? (i := 4) rfl)) (fun _ h9 => h9) rfl dX11_goText_272 ?_
    refine lv_aload_n hx hb dX11_goText_275 rfl (lv_at hl 0 rfl) ?_
    refine va_get (D := D) (ci := 8) (v := .int (M_foot u_th)) (C := RX11) (T := TX11) (N := 17) hx hb hts hi_X11 hown hK hP 0 rfl rfl 9 (by decide) (hts (.fieldLink RX11 60 "FairWheelModel" "foot" "I") (List.mem_of_getElem? (i := 5) rfl)) (fun _ h9 => h9) rfl dX11_goText_276 ?_
    by_cases c43 : (M_foot u_th) < 0 ∨ 8 ≤ (M_foot u_th).toNatClampNeg
    · have hf := (if_pos c43).symm.trans hf
      cases hf
    have hf := (if_neg c43).symm.trans hf
    refine va_iald hx hb hK hP 6 0 rfl rfl (show vp_in (M_foot u_th) 8 from c43) dX11_goText_279 ?_
    exact hJ280 K_37 hK_37 v1 v2 v3 v4 s1 ((M_now u_th) (M_foot u_th).toNatClampNeg) u_th _ _ ls (lv_sub hl [0, 1, 2, 3, 4] rfl) hP hD hS hf
  have hJ242 : ∀ (K_37 : Int32 → Int32 → Int32 → Int32 → sM → Option (Int32 × sM)), (∀ (v1 : Int32) (v2 : Int32) (v3 : Int32) (v4 : Int32) (u_th : sM) (H : Heap) (locs : List Loc) (ls : Array Slot), lv_has ls 7 [(0, .ref th0), (1, .int v1), (2, .int v2), (3, .int v3), (4, .int v4)] → va_P D vwCl (ceM cI cZ th0 th1 th2 th3 th4 th5 th6 th7 th8 th9 u_th) H → va_D A (ceM cI cZ th0 th1 th2 th3 th4 th5 th6 th7 th8 th9 u_th) → va_S A s.heap H locs → K_37 v1 v2 v3 v4 u_th = some z → W p l e (headSpec wsX11_goText rmX11_goText).room s m ([.ref th0, .int p1, .int p2] : List Value).toArray below meth c H locs 0 0 Q (F0 m 37 ls [])) → ∀ (v1 : Int32) (v2 : Int32) (v3 : Int32) (v4 : Int32) (s1 : Int32) (u_th : sM) (H : Heap) (locs : List Loc) (ls : Array Slot), lv_has ls 7 [(0, .ref th0), (1, .int v1), (2, .int v2), (3, .int v3), (4, .int v4)] → va_P D vwCl (ceM cI cZ th0 th1 th2 th3 th4 th5 th6 th7 th8 th9 u_th) H → va_D A (ceM cI cZ th0 th1 th2 th3 th4 th5 th6 th7 th8 th9 u_th) → va_S A s.heap H locs → f_X11_goText_J242 K_37 v1 v2 v3 v4 s1 u_th = some z → W p l e (headSpec wsX11_goText rmX11_goText).room s m ([.ref th0, .int p1, .int p2] : List Value).toArray below meth c H locs 0 0 Q (F0 m 242 ls [.int s1, .ref th0]) := by
    intro K_37 hK_37 v1 v2 v3 v4 s1 u_th H locs ls hl hP hD hS hf
    rw [f_X11_goText_J242] at hf
    refine va_put (D := D) (ci := 8) (v := .int s1) (ty := .int) (C := RX11) (T := TX11) (N := 17) hx hb hts hi_X11 tyX11 tyX11_ok nmX11 hown hK hP hD hS 0 rfl rfl 14 (by decide) (hts (.fieldLink RX11 79 "FairWheelModel" "reason" "I") (List.mem_of_getElem? (i := 1) rfl)) (fun _ h9 => h9) rfl (by decide +kernel) rfl rfl (Nat.le_of_ble_eq_true rfl) dX11_goText_242 (fun H locs hP hD hS => ?_)
    have hP : va_P D vwCl (ceM cI cZ th0 th1 th2 th3 th4 th5 th6 th7 th8 th9 ((M_weight u_th), (M_sits u_th), (M_stones u_th), (M_at u_th), (M_drag u_th), (M_sights u_th), (M_sight u_th), (M_signs u_th), (M_pad u_th), (M_foot u_th), (M_turned u_th), (M_bothWays u_th), (M_now u_th), (M_heap u_th), s1, (M_image u_th), (M_isKept u_th))) H := hP
    have hD : va_D A (ceM cI cZ th0 th1 th2 th3 th4 th5 th6 th7 th8 th9 ((M_weight u_th), (M_sits u_th), (M_stones u_th), (M_at u_th), (M_drag u_th), (M_sights u_th), (M_sight u_th), (M_signs u_th), (M_pad u_th), (M_foot u_th), (M_turned u_th), (M_bothWays u_th), (M_now u_th), (M_heap u_th), s1, (M_image u_th), (M_isKept u_th))) := hD
    refine lv_aload_n hx hb dX11_goText_245 rfl (lv_at hl 0 rfl) ?_
    refine va_get (D := D) (ci := 8) (v := .ref th6) (C := RX11) (T := TX11) (N := 17) hx hb hts hi_X11 hown hK hP 0 rfl rfl 12 (by decide) (hts (.fieldLink RX11 29 "FairWheelModel" "now" "[I") (List.mem_of_getElem? (i := 4) rfl)) (fun _ h9 => h9) rfl dX11_goText_246 ?_
    refine lv_aload_n hx hb dX11_goText_249 rfl (lv_at hl 0 rfl) ?_
    refine va_get (D := D) (ci := 8) (v := .int (M_foot u_th)) (C := RX11) (T := TX11) (N := 17) hx hb hts hi_X11 hown hK hP 0 rfl rfl 9 (by decide) (hts (.fieldLink RX11 60 "FairWheelModel" "foot" "I") (List.mem_of_getElem? (i := 5) rfl)) (fun _ h9 => h9) rfl dX11_goText_250 ?_
    refine lv_aload_n hx hb dX11_goText_253 rfl (lv_at hl 0 rfl) ?_
    refine va_get (D := D) (ci := 8) (v := .int s1) (C := RX11) (T := TX11) (N := 17) hx hb hts hi_X11 hown hK hP 0 rfl rfl 14 (by decide) (hts (.fieldLink RX11 79 "FairWheelModel" "reason" "I") (List.mem_of_getElem? (i := 1) rfl)) (fun _ h9 => h9) rfl dX11_goText_254 ?_
    refine lv_if_ne (tgt := 271) hx hb dX11_goText_257 (by decide) (fun c42 => ?_) (fun c42 => ?_)
    · have hf := (if_neg c42).symm.trans hf
      exact hJ271 K_37 hK_37 v1 v2 v3 v4 (M_foot u_th) ((M_weight u_th), (M_sits u_th), (M_stones u_th), (M_at u_th), (M_drag u_th), (M_sights u_th), (M_sight u_th), (M_signs u_th), (M_pad u_th), (M_foot u_th), (M_turned u_th), (M_bothWays u_th), (M_now u_th), (M_heap u_th), s1, (M_image u_th), (M_isKept u_th)) _ _ ls (lv_sub hl [0, 1, 2, 3, 4] rfl) hP hD hS hf
    · have hf := (if_pos c42).symm.trans hf
      refine lv_iload hx hb dX11_goText_260 (lv_at hl 4 rfl) ?_
      refine lv_iload_n hx hb dX11_goText_262 rfl (lv_at hl 2 rfl) ?_
      refine lv_icmp_eq (tgt := 271) hx hb dX11_goText_263 (by decide) (fun c45 => ?_) (fun c45 => ?_)
      · have hf := (if_pos c45).symm.trans hf
        exact hJ271 K_37 hK_37 v1 v2 v3 v4 (M_foot u_th) ((M_weight u_th), (M_sits u_th), (M_stones u_th), (M_at u_th), (M_drag u_th), (M_sights u_th), (M_sight u_th), (M_signs u_th), (M_pad u_th), (M_foot u_th), (M_turned u_th), (M_bothWays u_th), (M_now u_th), (M_heap u_th), s1, (M_image u_th), (M_isKept u_th)) _ _ ls (lv_sub hl [0, 1, 2, 3, 4] rfl) hP hD hS hf
      · have hf := (if_neg c45).symm.trans hf
        refine lv_bipush (v := -6) hx hb dX11_goText_266 (by decide) ?_
        refine lv_goto (tgt := 280) hx hb dX11_goText_268 (by decide) ?_
        exact hJ280 K_37 hK_37 v1 v2 v3 v4 (M_foot u_th) (-6 : Int32) ((M_weight u_th), (M_sits u_th), (M_stones u_th), (M_at u_th), (M_drag u_th), (M_sights u_th), (M_sight u_th), (M_signs u_th), (M_pad u_th), (M_foot u_th), (M_turned u_th), (M_bothWays u_th), (M_now u_th), (M_heap u_th), s1, (M_image u_th), (M_isKept u_th)) _ _ ls (lv_sub hl [0, 1, 2, 3, 4] rfl) hP hD hS hf
  have hL37 : ∀ (n : Nat), ∀ (v1 : Int32) (v2 : Int32) (v3 : Int32) (v4 : Int32) (u_th : sM) (H : Heap) (locs : List Loc) (ls : Array Slot), lv_has ls 7 [(0, .ref th0), (1, .int v1), (2, .int v2), (3, .int v3), (4, .int v4)] → va_P D vwCl (ceM cI cZ th0 th1 th2 th3 th4 th5 th6 th7 th8 th9 u_th) H → va_D A (ceM cI cZ th0 th1 th2 th3 th4 th5 th6 th7 th8 th9 u_th) → va_S A s.heap H locs → f_X11_goText_L37 n v1 v2 v3 v4 u_th = some z → W p l e (headSpec wsX11_goText rmX11_goText).room s m ([.ref th0, .int p1, .int p2] : List Value).toArray below meth c H locs 0 0 Q (F0 m 37 ls []) := by
    intro n
    induction n with
    | zero =>
      intro v1 v2 v3 v4 u_th H locs ls hl hP hD hS hf
      exact absurd (show (none : Option (Int32 × sM)) = some z from hf) (fun h => by cases h)
    | succ n ih =>
      intro v1 v2 v3 v4 u_th H locs ls hl hP hD hS hf
      rw [f_X11_goText_L37] at hf
      refine lv_iload hx hb dX11_goText_37 (lv_at hl 4 rfl) ?_
      refine lv_aload_n hx hb dX11_goText_39 rfl (lv_at hl 0 rfl) ?_
      refine va_get (D := D) (ci := 8) (v := .int (M_signs u_th)) (C := RX11) (T := TX11) (N := 17) hx hb hts hi_X11 hown hK hP 0 rfl rfl 7 (by decide) (hts (.fieldLink RX11 50 "FairWheelModel" "signs" "I") (List.mem_of_getElem? (i := 2) rfl)) (fun _ h9 => h9) rfl dX11_goText_40 ?_
      refine lv_icmp_ge (tgt := 463) hx hb dX11_goText_43 (by decide) (fun c4 => ?_) (fun c4 => ?_)
      · have hf := (if_pos c4).symm.trans hf
        refine lv_bipush (v := -6) hx hb dX11_goText_463 (by decide) ?_
        exact k_iret (v := (-6 : Int32)) (u := u_th) hx hb hr hlocks hK hS eQ hf hP hD dX11_goText_465
      · have hf := (if_neg c4).symm.trans hf
        refine lv_aload_n hx hb dX11_goText_46 rfl (lv_at hl 0 rfl) ?_
        refine va_get (D := D) (ci := 8) (v := .ref th5) (C := RX11) (T := TX11) (N := 17) hx hb hts hi_X11 hown hK hP 0 rfl rfl 8 (by decide) (hts (.fieldLink RX11 26 "FairWheelModel" "pad" "[I") (List.mem_of_getElem? (i := 3) rfl)) (fun _ h9 => h9) rfl dX11_goText_47 ?_
        refine lv_iload hx hb dX11_goText_50 (lv_at hl 4 rfl) ?_
        by_cases c5 : v4 < 0 ∨ 60 ≤ v4.toNatClampNeg
        · have hf := (if_pos c5).symm.trans hf
          cases hf
        have hf := (if_neg c5).symm.trans hf
        refine va_iald hx hb hK hP 5 0 rfl rfl (show vp_in v4 60 from c5) dX11_goText_52 ?_
        refine lv_istore (lv' := [(5, .int ((M_pad u_th) v4.toNatClampNeg)), (0, .ref th0), (1, .int v1), (2, .int v2), (3, .int v3), (4, .int v4)]) hx hb dX11_goText_53 hl (by decide) rfl (fun ls hl => ?_)
        refine lv_iload hx hb dX11_goText_55 (lv_at hl 0 rfl) ?_
        refine lv_bipush (v := 63) hx hb dX11_goText_57 (by decide) ?_
        refine lv_icmp_eq (tgt := 74) hx hb dX11_goText_59 (by decide) (fun c6 => ?_) (fun c6 => ?_)
        · have hf := (if_pos c6).symm.trans hf
          exact hJ74 (f_X11_goText_L37 n) ih v1 v2 v3 v4 ((M_pad u_th) v4.toNatClampNeg) u_th _ _ ls (lv_sub hl [1, 2, 3, 4, 5, 0] rfl) hP hD hS hf
        · have hf := (if_neg c6).symm.trans hf
          refine lv_iload hx hb dX11_goText_62 (lv_at hl 0 rfl) ?_
          refine lv_bipush (v := 65) hx hb dX11_goText_64 (by decide) ?_
          refine lv_bipush (v := 72) hx hb dX11_goText_66 (by decide) ?_
          obtain ⟨z21, hz_z21, hf⟩ := o_bind hf
          refine k_calli (va_runS (As := [.int ((M_pad u_th) v4.toNatClampNeg), .int (65 : Int32), .int (72 : Int32)]) (rest := []) ⟨hx, hb, hml, hown, hts⟩ (c_X11_in l D cI cZ  H.size ((M_pad u_th) v4.toNatClampNeg) (65 : Int32) (72 : Int32) z21 hz_z21) (va_cwS 3 hts gX11_goText_X11_in rfl rfl rfl hd_X11_in ⟨Nat.le_of_ble_eq_true rfl, Nat.le_of_ble_eq_true rfl⟩) (k_preS hK hP hD hS hA hE [] (by decide) rfl) rfl rfl hl.1 rfl (lv_room (Nat.le_of_ble_eq_true rfl)) dX11_goText_68 ⟨Nat.zero_le _, Nat.zero_le _⟩) hP hD hS hA [] [none, none, none, none, none, none, none, none, none, none] 0 rfl (by decide) (by decide) rfl rfl (fun H locs hP hD hS => ?_)
          have hP : va_P D vwCl (ceM cI cZ th0 th1 th2 th3 th4 th5 th6 th7 th8 th9 u_th) H := hP
          have hD : va_D A (ceM cI cZ th0 th1 th2 th3 th4 th5 th6 th7 th8 th9 u_th) := hD
          refine lv_if_eq (tgt := 201) hx hb dX11_goText_71 (by decide) (fun c22 => ?_) (fun c22 => ?_)
          · have hf := (if_pos c22).symm.trans hf
            refine lv_iload hx hb dX11_goText_201 (lv_at hl 0 rfl) ?_
            refine lv_bipush (v := 97) hx hb dX11_goText_203 (by decide) ?_
            refine lv_bipush (v := 104) hx hb dX11_goText_205 (by decide) ?_
            obtain ⟨z23, hz_z23, hf⟩ := o_bind hf
            refine k_calli (va_runS (As := [.int ((M_pad u_th) v4.toNatClampNeg), .int (97 : Int32), .int (104 : Int32)]) (rest := []) ⟨hx, hb, hml, hown, hts⟩ (c_X11_in l D cI cZ  H.size ((M_pad u_th) v4.toNatClampNeg) (97 : Int32) (104 : Int32) z23 hz_z23) (va_cwS 3 hts gX11_goText_X11_in rfl rfl rfl hd_X11_in ⟨Nat.le_of_ble_eq_true rfl, Nat.le_of_ble_eq_true rfl⟩) (k_preS hK hP hD hS hA hE [] (by decide) rfl) rfl rfl hl.1 rfl (lv_room (Nat.le_of_ble_eq_true rfl)) dX11_goText_207 ⟨Nat.zero_le _, Nat.zero_le _⟩) hP hD hS hA [] [none, none, none, none, none, none, none, none, none, none] 0 rfl (by decide) (by decide) rfl rfl (fun H locs hP hD hS => ?_)
            have hP : va_P D vwCl (ceM cI cZ th0 th1 th2 th3 th4 th5 th6 th7 th8 th9 u_th) H := hP
            have hD : va_D A (ceM cI cZ th0 th1 th2 th3 th4 th5 th6 th7 th8 th9 u_th) := hD
            refine lv_if_eq (tgt := 284) hx hb dX11_goText_210 (by decide) (fun c24 => ?_) (fun c24 => ?_)
            · have hf := (if_pos c24).symm.trans hf
              refine lv_iload hx hb dX11_goText_284 (lv_at hl 0 rfl) ?_
              refine lv_bipush (v := 60) hx hb dX11_goText_286 (by decide) ?_
              refine lv_icmp_eq (tgt := 298) hx hb dX11_goText_288 (by decide) (fun c25 => ?_) (fun c25 => ?_)
              · have hf := (if_pos c25).symm.trans hf
                exact hJ298 (f_X11_goText_L37 n) ih v1 v2 v3 v4 ((M_pad u_th) v4.toNatClampNeg) u_th _ _ ls (lv_sub hl [1, 2, 3, 4, 5, 0] rfl) hP hD hS hf
              · have hf := (if_neg c25).symm.trans hf
                refine lv_iload hx hb dX11_goText_291 (lv_at hl 0 rfl) ?_
                refine lv_bipush (v := 62) hx hb dX11_goText_293 (by decide) ?_
                refine lv_icmp_ne (tgt := 326) hx hb dX11_goText_295 (by decide) (fun c27 => ?_) (fun c27 => ?_)
                · have hf := (if_neg c27).symm.trans hf
                  refine lv_iload hx hb dX11_goText_326 (lv_at hl 0 rfl) ?_
                  refine lv_bipush (v := 94) hx hb dX11_goText_328 (by decide) ?_
                  refine lv_icmp_ne (tgt := 340) hx hb dX11_goText_330 (by decide) (fun c28 => ?_) (fun c28 => ?_)
                  · have hf := (if_neg c28).symm.trans hf
                    refine lv_iload hx hb dX11_goText_340 (lv_at hl 0 rfl) ?_
                    refine lv_bipush (v := 48) hx hb dX11_goText_342 (by decide) ?_
                    refine lv_icmp_ne (tgt := 378) hx hb dX11_goText_344 (by decide) (fun c29 => ?_) (fun c29 => ?_)
                    · have hf := (if_neg c29).symm.trans hf
                      refine lv_aload_n hx hb dX11_goText_378 rfl (lv_at hl 1 rfl) ?_
                      refine lv_iload hx hb dX11_goText_379 (lv_at hl 5 rfl) ?_
                      refine lv_iload_n hx hb dX11_goText_381 rfl (lv_at hl 3 rfl) ?_
                      refine lv_icmp_eq (tgt := 409) hx hb dX11_goText_382 (by decide) (fun c30 => ?_) (fun c30 => ?_)
                      · have hf := (if_pos c30).symm.trans hf
                        refine lv_iconst (v := 0) hx hb dX11_goText_409 (by decide) ?_
                        exact hJ410 (f_X11_goText_L37 n) ih v1 v2 v3 v4 ((M_pad u_th) v4.toNatClampNeg) (0 : Int32) u_th _ _ ls (lv_sub hl [1, 2, 3, 4, 5, 0] rfl) hP hD hS hf
                      · have hf := (if_neg c30).symm.trans hf
                        refine lv_aload_n hx hb dX11_goText_385 rfl (lv_at hl 1 rfl) ?_
                        refine va_get (D := D) (ci := 8) (v := .ref th7) (C := RX11) (T := TX11) (N := 17) hx hb hts hi_X11 hown hK hP 0 rfl rfl 13 (by decide) (hts (.fieldLink RX11 32 "FairWheelModel" "heap" "[I") (List.mem_of_getElem? (i := 6) rfl)) (fun _ h9 => h9) rfl dX11_goText_386 ?_
                        refine lv_aload_n hx hb dX11_goText_389 rfl (lv_at hl 1 rfl) ?_
                        refine va_get (D := D) (ci := 8) (v := .int (M_foot u_th)) (C := RX11) (T := TX11) (N := 17) hx hb hts hi_X11 hown hK hP 0 rfl rfl 9 (by decide) (hts (.fieldLink RX11 60 "FairWheelModel" "foot" "I") (List.mem_of_getElem? (i := 5) rfl)) (fun _ h9 => h9) rfl dX11_goText_390 ?_
                        by_cases c35 : (M_foot u_th) < 0 ∨ 8 ≤ (M_foot u_th).toNatClampNeg
                        · have hf := (if_pos c35).symm.trans hf
                          cases hf
                        have hf := (if_neg c35).symm.trans hf
                        refine va_iald hx hb hK hP 7 0 rfl rfl (show vp_in (M_foot u_th) 8 from c35) dX11_goText_393 ?_
                        refine lv_iload hx hb dX11_goText_394 (lv_at hl 0 rfl) ?_
                        refine lv_iadd hx hb dX11_goText_396 ?_
                        refine lv_bipush (v := 48) hx hb dX11_goText_397 (by decide) ?_
                        refine lv_isub hx hb dX11_goText_399 ?_
                        refine lv_bipush (v := 99) hx hb dX11_goText_400 (by decide) ?_
                        refine lv_icmp_le (tgt := 409) hx hb dX11_goText_402 (by decide) (fun c36 => ?_) (fun c36 => ?_)
                        · have hf := (if_pos c36).symm.trans hf
                          refine lv_iconst (v := 0) hx hb dX11_goText_409 (by decide) ?_
                          exact hJ410 (f_X11_goText_L37 n) ih v1 v2 v3 v4 ((M_pad u_th) v4.toNatClampNeg) (0 : Int32) u_th _ _ ls (lv_sub hl [1, 2, 3, 4, 5, 0] rfl) hP hD hS hf
                        · have hf := (if_neg c36).symm.trans hf
                          refine lv_iconst (v := 4) hx hb dX11_goText_405 (by decide) ?_
                          refine lv_goto (tgt := 410) hx hb dX11_goText_406 (by decide) ?_
                          exact hJ410 (f_X11_goText_L37 n) ih v1 v2 v3 v4 ((M_pad u_th) v4.toNatClampNeg) (4 : Int32) u_th _ _ ls (lv_sub hl [1, 2, 3, 4, 5, 0] rfl) hP hD hS hf
                    · have hf := (if_pos c29).symm.trans hf
                      refine lv_aload_n hx hb dX11_goText_347 rfl (lv_at hl 1 rfl) ?_
                      refine va_get (D := D) (ci := 8) (v := .ref th7) (C := RX11) (T := TX11) (N := 17) hx hb hts hi_X11 hown hK hP 0 rfl rfl 13 (by decide) (hts (.fieldLink RX11 32 "FairWheelModel" "heap" "[I") (List.mem_of_getElem? (i := 6) rfl)) (fun _ h9 => h9) rfl dX11_goText_348 ?_
                      refine lv_aload_n hx hb dX11_goText_351 rfl (lv_at hl 1 rfl) ?_
                      refine va_get (D := D) (ci := 8) (v := .int (M_foot u_th)) (C := RX11) (T := TX11) (N := 17) hx hb hts hi_X11 hown hK hP 0 rfl rfl 9 (by decide) (hts (.fieldLink RX11 60 "FairWheelModel" "foot" "I") (List.mem_of_getElem? (i := 5) rfl)) (fun _ h9 => h9) rfl dX11_goText_352 ?_
                      refine lv_iload hx hb dX11_goText_355 (lv_at hl 5 rfl) ?_
                      refine lv_iload_n hx hb dX11_goText_357 rfl (lv_at hl 3 rfl) ?_
                      refine lv_icmp_ne (tgt := 373) hx hb dX11_goText_358 (by decide) (fun c37 => ?_) (fun c37 => ?_)
                      · have hf := (if_neg c37).symm.trans hf
                        refine lv_iconst (v := 0) hx hb dX11_goText_373 (by decide) ?_
                        exact hJ374 (f_X11_goText_L37 n) ih v1 v2 v3 v4 (M_foot u_th) (0 : Int32) u_th _ _ ls (lv_sub hl [1, 2, 3, 4, 5] rfl) hP hD hS hf
                      · have hf := (if_pos c37).symm.trans hf
                        refine lv_aload_n hx hb dX11_goText_361 rfl (lv_at hl 1 rfl) ?_
                        refine va_get (D := D) (ci := 8) (v := .ref th7) (C := RX11) (T := TX11) (N := 17) hx hb hts hi_X11 hown hK hP 0 rfl rfl 13 (by decide) (hts (.fieldLink RX11 32 "FairWheelModel" "heap" "[I") (List.mem_of_getElem? (i := 6) rfl)) (fun _ h9 => h9) rfl dX11_goText_362 ?_
                        refine lv_aload_n hx hb dX11_goText_365 rfl (lv_at hl 1 rfl) ?_
                        refine va_get (D := D) (ci := 8) (v := .int (M_foot u_th)) (C := RX11) (T := TX11) (N := 17) hx hb hts hi_X11 hown hK hP 0 rfl rfl 9 (by decide) (hts (.fieldLink RX11 60 "FairWheelModel" "foot" "I") (List.mem_of_getElem? (i := 5) rfl)) (fun _ h9 => h9) rfl dX11_goText_366 ?_
                        by_cases c39 : (M_foot u_th) < 0 ∨ 8 ≤ (M_foot u_th).toNatClampNeg
                        · have hf := (if_pos c39).symm.trans hf
                          cases hf
                        have hf := (if_neg c39).symm.trans hf
                        refine va_iald hx hb hK hP 7 0 rfl rfl (show vp_in (M_foot u_th) 8 from c39) dX11_goText_369 ?_
                        refine lv_goto (tgt := 374) hx hb dX11_goText_370 (by decide) ?_
                        exact hJ374 (f_X11_goText_L37 n) ih v1 v2 v3 v4 (M_foot u_th) ((M_heap u_th) (M_foot u_th).toNatClampNeg) u_th _ _ ls (lv_sub hl [1, 2, 3, 4, 5] rfl) hP hD hS hf
                  · have hf := (if_pos c28).symm.trans hf
                    refine lv_aload_n hx hb dX11_goText_333 rfl (lv_at hl 1 rfl) ?_
                    obtain ⟨z40, hz_z40, hf⟩ := o_bind hf
                    refine k_callv (va_runV (As := []) (rest := []) ⟨hx, hb, hml, hown, hts⟩ (c_X11_letGo l D cI cZ th0 th1 th2 th3 th4 th5 th6 th7 th8 th9 H.size u_th z40 hz_z40) (cwV 0 hts gX11_goText_X11_letGo rfl rfl rfl ⟨rfl, hd_X11_letGo⟩ ⟨Nat.le_of_ble_eq_true rfl, Nat.le_of_ble_eq_true rfl⟩) (k_preV hK hP hD hS hA hE [0, 1, 2, 3, 4, 5, 6, 7, 8, 9] (by decide) rfl (ci := 8) rfl rfl) rfl rfl hl.1 rfl (lv_room (Nat.le_of_ble_eq_true rfl)) dX11_goText_334 ⟨Nat.zero_le _, Nat.zero_le _⟩) hP hD hS hA [0, 1, 2, 3, 4, 5, 6, 7, 8, 9] [some 0, some 1, some 2, some 3, some 4, some 5, some 6, some 7, some 8, some 9] 10 rfl (by decide) (by decide) rfl rfl (fun H locs hP hD hS => ?_)
                    have hP : va_P D vwCl (ceM cI cZ th0 th1 th2 th3 th4 th5 th6 th7 th8 th9 z40) H := hP
                    have hD : va_D A (ceM cI cZ th0 th1 th2 th3 th4 th5 th6 th7 th8 th9 z40) := hD
                    refine lv_goto (tgt := 447) hx hb dX11_goText_337 (by decide) ?_
                    exact hJ447 (f_X11_goText_L37 n) ih v1 v2 v3 v4 z40 _ _ ls (lv_sub hl [1, 2, 3, 4, 5] rfl) hP hD hS hf
                · have hf := (if_pos c27).symm.trans hf
                  exact hJ298 (f_X11_goText_L37 n) ih v1 v2 v3 v4 ((M_pad u_th) v4.toNatClampNeg) u_th _ _ ls (lv_sub hl [1, 2, 3, 4, 5, 0] rfl) hP hD hS hf
            · have hf := (if_neg c24).symm.trans hf
              refine lv_aload_n hx hb dX11_goText_213 rfl (lv_at hl 1 rfl) ?_
              refine lv_iload hx hb dX11_goText_214 (lv_at hl 5 rfl) ?_
              refine lv_iload_n hx hb dX11_goText_216 rfl (lv_at hl 3 rfl) ?_
              refine lv_icmp_eq (tgt := 241) hx hb dX11_goText_217 (by decide) (fun c41 => ?_) (fun c41 => ?_)
              · have hf := (if_pos c41).symm.trans hf
                refine lv_iconst (v := 0) hx hb dX11_goText_241 (by decide) ?_
                exact hJ242 (f_X11_goText_L37 n) ih v1 v2 v3 v4 (0 : Int32) u_th _ _ ls (lv_sub hl [1, 2, 3, 4, 5] rfl) hP hD hS hf
              · have hf := (if_neg c41).symm.trans hf
                refine lv_aload_n hx hb dX11_goText_220 rfl (lv_at hl 1 rfl) ?_
                refine va_get (D := D) (ci := 8) (v := .ref th6) (C := RX11) (T := TX11) (N := 17) hx hb hts hi_X11 hown hK hP 0 rfl rfl 12 (by decide) (hts (.fieldLink RX11 29 "FairWheelModel" "now" "[I") (List.mem_of_getElem? (i := 4) rfl)) (fun _ h9 => h9) rfl dX11_goText_221 ?_
                refine lv_aload_n hx hb dX11_goText_224 rfl (lv_at hl 1 rfl) ?_
                refine va_get (D := D) (ci := 8) (v := .int (M_foot u_th)) (C := RX11) (T := TX11) (N := 17) hx hb hts hi_X11 hown hK hP 0 rfl rfl 9 (by decide) (hts (.fieldLink RX11 60 "FairWheelModel" "foot" "I") (List.mem_of_getElem? (i := 5) rfl)) (fun _ h9 => h9) rfl dX11_goText_225 ?_
                by_cases c46 : (M_foot u_th) < 0 ∨ 8 ≤ (M_foot u_th).toNatClampNeg
                · have hf := (if_pos c46).symm.trans hf
                  cases hf
                have hf := (if_neg c46).symm.trans hf
                refine va_iald hx hb hK hP 6 0 rfl rfl (show vp_in (M_foot u_th) 8 from c46) dX11_goText_228 ?_
                refine lv_iload hx hb dX11_goText_229 (lv_at hl 0 rfl) ?_
                refine lv_bipush (v := 97) hx hb dX11_goText_231 (by decide) ?_
                refine lv_isub hx hb dX11_goText_233 ?_
                refine lv_icmp_eq (tgt := 241) hx hb dX11_goText_234 (by decide) (fun c47 => ?_) (fun c47 => ?_)
                · have hf := (if_pos c47).symm.trans hf
                  refine lv_iconst (v := 0) hx hb dX11_goText_241 (by decide) ?_
                  exact hJ242 (f_X11_goText_L37 n) ih v1 v2 v3 v4 (0 : Int32) u_th _ _ ls (lv_sub hl [1, 2, 3, 4, 5] rfl) hP hD hS hf
                · have hf := (if_neg c47).symm.trans hf
                  refine lv_iconst (v := 3) hx hb dX11_goText_237 (by decide) ?_
                  refine lv_goto (tgt := 242) hx hb dX11_goText_238 (by decide) ?_
                  exact hJ242 (f_X11_goText_L37 n) ih v1 v2 v3 v4 (3 : Int32) u_th _ _ ls (lv_sub hl [1, 2, 3, 4, 5] rfl) hP hD hS hf
          · have hf := (if_neg c22).symm.trans hf
            exact hJ74 (f_X11_goText_L37 n) ih v1 v2 v3 v4 ((M_pad u_th) v4.toNatClampNeg) u_th _ _ ls (lv_sub hl [1, 2, 3, 4, 5, 0] rfl) hP hD hS hf
  have hL14 : ∀ (n : Nat), ∀ (v1 : Int32) (v2 : Int32) (v3 : Int32) (v4 : Int32) (u_th : sM) (H : Heap) (locs : List Loc) (ls : Array Slot), lv_has ls 7 [(0, .ref th0), (1, .int v1), (2, .int v2), (3, .int v3), (4, .int v4)] → va_P D vwCl (ceM cI cZ th0 th1 th2 th3 th4 th5 th6 th7 th8 th9 u_th) H → va_D A (ceM cI cZ th0 th1 th2 th3 th4 th5 th6 th7 th8 th9 u_th) → va_S A s.heap H locs → f_X11_goText_L14 n v1 v2 v3 v4 u_th = some z → W p l e (headSpec wsX11_goText rmX11_goText).room s m ([.ref th0, .int p1, .int p2] : List Value).toArray below meth c H locs 0 0 Q (F0 m 14 ls []) := by
    intro n
    induction n with
    | zero =>
      intro v1 v2 v3 v4 u_th H locs ls hl hP hD hS hf
      exact absurd (show (none : Option (Int32 × sM)) = some z from hf) (fun h => by cases h)
    | succ n ih =>
      intro v1 v2 v3 v4 u_th H locs ls hl hP hD hS hf
      rw [f_X11_goText_L14] at hf
      refine lv_iload hx hb dX11_goText_14 (lv_at hl 4 rfl) ?_
      refine lv_aload_n hx hb dX11_goText_16 rfl (lv_at hl 0 rfl) ?_
      obtain ⟨z2, hz_z2, hf⟩ := o_bind hf
      refine k_calli (va_runV (As := []) (rest := [.int v4]) ⟨hx, hb, hml, hown, hts⟩ (c_X11_opens l D cI cZ th0 th1 th2 th3 th4 th5 th6 th7 th8 th9 H.size u_th z2 hz_z2) (cwV 0 hts gX11_goText_X11_opens rfl rfl rfl ⟨rfl, hd_X11_opens⟩ ⟨Nat.le_of_ble_eq_true rfl, Nat.le_of_ble_eq_true rfl⟩) (k_preV hK hP hD hS hA hE [0, 1, 2, 3, 4, 5, 6, 7, 8, 9] (by decide) rfl (ci := 8) rfl rfl) rfl rfl hl.1 rfl (lv_room (Nat.le_of_ble_eq_true rfl)) dX11_goText_17 ⟨Nat.zero_le _, Nat.zero_le _⟩) hP hD hS hA [0, 1, 2, 3, 4, 5, 6, 7, 8, 9] [some 0, some 1, some 2, some 3, some 4, some 5, some 6, some 7, some 8, some 9] 10 rfl (by decide) (by decide) rfl rfl (fun H locs hP hD hS => ?_)
      have hP : va_P D vwCl (ceM cI cZ th0 th1 th2 th3 th4 th5 th6 th7 th8 th9 u_th) H := hP
      have hD : va_D A (ceM cI cZ th0 th1 th2 th3 th4 th5 th6 th7 th8 th9 u_th) := hD
      refine lv_icmp_ge (tgt := 34) hx hb dX11_goText_20 (by decide) (fun c3 => ?_) (fun c3 => ?_)
      · have hf := (if_pos c3).symm.trans hf
        refine lv_iconst (v := 0) hx hb dX11_goText_34 (by decide) ?_
        refine lv_istore (lv' := [(4, .int (0 : Int32)), (0, .ref th0), (1, .int v1), (2, .int v2), (3, .int v3)]) hx hb dX11_goText_35 hl (by decide) rfl (fun ls hl => ?_)
        exact hL37 oF v1 v2 v3 (0 : Int32) u_th _ _ ls (lv_sub hl [1, 2, 3, 4, 0] rfl) hP hD hS hf
      · have hf := (if_neg c3).symm.trans hf
        refine lv_iload_n hx hb dX11_goText_23 rfl (lv_at hl 3 rfl) ?_
        refine lv_bipush (v := 8) hx hb dX11_goText_24 (by decide) ?_
        refine lv_imul hx hb dX11_goText_26 ?_
        refine lv_istore_n (lv' := [(3, .int (v3 * (8 : Int32))), (0, .ref th0), (1, .int v1), (2, .int v2), (4, .int v4)]) hx hb dX11_goText_27 rfl hl (by decide) rfl (fun ls hl => ?_)
        refine lv_iinc (v := (v4 + (1 : Int32))) (lv' := [(4, .int (v4 + (1 : Int32))), (3, .int (v3 * (8 : Int32))), (0, .ref th0), (1, .int v1), (2, .int v2)]) hx hb dX11_goText_28 hl (k := 4) rfl rfl (by decide) rfl (fun ls hl => ?_)
        refine lv_goto (tgt := 14) hx hb dX11_goText_31 (by decide) ?_
        exact ih v1 v2 (v3 * (8 : Int32)) (v4 + (1 : Int32)) u_th _ _ ls (lv_sub hl [2, 3, 4, 1, 0] rfl) hP hD hS hf
  rw [f_X11_goText] at hf
  refine lv_aload_n hx hb dX11_goText_0 rfl (lv_at hl 0 rfl) ?_
  obtain ⟨z1, hz_z1, hf⟩ := o_bind hf
  refine k_callv (va_runV (As := []) (rest := []) ⟨hx, hb, hml, hown, hts⟩ (c_X11_asNow l D cI cZ th0 th1 th2 th3 th4 th5 th6 th7 th8 th9 H.size u_th z1 hz_z1) (cwV 0 hts gX11_goText_X11_asNow rfl rfl rfl ⟨rfl, hd_X11_asNow⟩ ⟨Nat.le_of_ble_eq_true rfl, Nat.le_of_ble_eq_true rfl⟩) (k_preV hK hP hD hS hA hE [0, 1, 2, 3, 4, 5, 6, 7, 8, 9] (by decide) rfl (ci := 8) rfl rfl) rfl rfl hl.1 rfl (lv_room (Nat.le_of_ble_eq_true rfl)) dX11_goText_1 ⟨Nat.zero_le _, Nat.zero_le _⟩) hP hD hS hA [0, 1, 2, 3, 4, 5, 6, 7, 8, 9] [some 0, some 1, some 2, some 3, some 4, some 5, some 6, some 7, some 8, some 9] 10 rfl (by decide) (by decide) rfl rfl (fun H locs hP hD hS => ?_)
  have hP : va_P D vwCl (ceM cI cZ th0 th1 th2 th3 th4 th5 th6 th7 th8 th9 z1) H := hP
  have hD : va_D A (ceM cI cZ th0 th1 th2 th3 th4 th5 th6 th7 th8 th9 z1) := hD
  refine lv_aload_n hx hb dX11_goText_4 rfl (lv_at hl 0 rfl) ?_
  refine lv_iconst (v := 0) hx hb dX11_goText_5 (by decide) ?_
  refine va_put (D := D) (ci := 8) (v := .int (0 : Int32)) (ty := .int) (C := RX11) (T := TX11) (N := 17) hx hb hts hi_X11 tyX11 tyX11_ok nmX11 hown hK hP hD hS 0 rfl rfl 14 (by decide) (hts (.fieldLink RX11 79 "FairWheelModel" "reason" "I") (List.mem_of_getElem? (i := 1) rfl)) (fun _ h9 => h9) rfl (by decide +kernel) rfl rfl (Nat.le_of_ble_eq_true rfl) dX11_goText_6 (fun H locs hP hD hS => ?_)
  have hP : va_P D vwCl (ceM cI cZ th0 th1 th2 th3 th4 th5 th6 th7 th8 th9 ((M_weight z1), (M_sits z1), (M_stones z1), (M_at z1), (M_drag z1), (M_sights z1), (M_sight z1), (M_signs z1), (M_pad z1), (M_foot z1), (M_turned z1), (M_bothWays z1), (M_now z1), (M_heap z1), (0 : Int32), (M_image z1), (M_isKept z1))) H := hP
  have hD : va_D A (ceM cI cZ th0 th1 th2 th3 th4 th5 th6 th7 th8 th9 ((M_weight z1), (M_sits z1), (M_stones z1), (M_at z1), (M_drag z1), (M_sights z1), (M_sight z1), (M_signs z1), (M_pad z1), (M_foot z1), (M_turned z1), (M_bothWays z1), (M_now z1), (M_heap z1), (0 : Int32), (M_image z1), (M_isKept z1))) := hD
  refine lv_iconst (v := 1) hx hb dX11_goText_9 (by decide) ?_
  refine lv_istore_n (lv' := [(3, .int (1 : Int32)), (0, .ref th0), (1, .int p1), (2, .int p2)]) hx hb dX11_goText_10 rfl hl (by decide) rfl (fun ls hl => ?_)
  refine lv_iconst (v := 1) hx hb dX11_goText_11 (by decide) ?_
  refine lv_istore (lv' := [(4, .int (1 : Int32)), (3, .int (1 : Int32)), (0, .ref th0), (1, .int p1), (2, .int p2)]) hx hb dX11_goText_12 hl (by decide) rfl (fun ls hl => ?_)
  exact hL14 oF p1 p2 (1 : Int32) (1 : Int32) ((M_weight z1), (M_sits z1), (M_stones z1), (M_at z1), (M_drag z1), (M_sights z1), (M_sight z1), (M_signs z1), (M_pad z1), (M_foot z1), (M_turned z1), (M_bothWays z1), (M_now z1), (M_heap z1), (0 : Int32), (M_image z1), (M_isKept z1)) _ _ ls (lv_sub hl [2, 3, 4, 1, 0] rfl) hP hD hS hf
theorem hd_X11_judge : yX11_judge.cls ≠ "java/lang/invoke/MethodHandle" ∧ yX11_judge.cls ≠ "java/lang/invoke/VarHandle" ∧ (parseMethodDescriptor yX11_judge.desc).map (fun d => d.parameters.length) = some 1 := by decide +kernel
set_option maxHeartbeats 4000000 in
set_option maxRecDepth 100000 in
theorem c_X11_judge (l : Launch) (D : va_G) (cI cZ : ClassId) (th0 : Nat) (th1 : Nat) (th2 : Nat) (th3 : Nat) (th4 : Nat) (th5 : Nat) (th6 : Nat) (th7 : Nat) (th8 : Nat) (th9 : Nat) (sz : Nat) (u_th : sM) (p1 : Int32) (z : Int32 × sM) (hf : f_X11_judge u_th p1 = some z) : Met l yX11_judge wsX11_judge rmX11_judge (va_Pc [.ref th0, .int p1] (wPr D cI cZ (ceM cI cZ th0 th1 th2 th3 th4 th5 th6 th7 th8 th9 u_th) sz)) (va_Qi (fun (r : Int32) (v : sM) => (r, v) = z) (fun (v : sM) t => wPo D cI cZ (va_A (ceM cI cZ th0 th1 th2 th3 th4 th5 th6 th7 th8 th9 u_th) sz) (ceM cI cZ th0 th1 th2 th3 th4 th5 th6 th7 th8 th9 v) t) (va_A (ceM cI cZ th0 th1 th2 th3 th4 th5 th6 th7 th8 th9 u_th) sz)) 0 0 (va_A (ceM cI cZ th0 th1 th2 th3 th4 th5 th6 th7 th8 th9 u_th) sz) := by
  refine k_enter (D := D) (cI := cI) (cZ := cZ) (wl := ceM cI cZ th0 th1 th2 th3 th4 th5 th6 th7 th8 th9 u_th) (sz := sz) (av := [.ref th0, .int p1]) (cc := cX11_judge) (maxL := 3) (ret := (some .int)) (Qc := fun A => va_Qi (fun (r : Int32) (v : sM) => (r, v) = z) (fun (v : sM) t => wPo D cI cZ (A) (ceM cI cZ th0 th1 th2 th3 th4 th5 th6 th7 th8 th9 v) t) (A)) (by decide) rfl (Nat.le_of_ble_eq_true rfl) ?_
  intro p e s m below meth c ls A Q H locs eQ hx hb hr hml hts hown hlocks hK hP hD hS hA hE hl
  have hown : s.vm.findClass RX11 = some m.cls := hown
  have hl : lv_has ls 3 [(0, .ref th0), (1, .int p1)] := hl
  have hi_X11 : ∀ w ∈ wsX110, w ∈ wsX11_judge := fun w h => List.mem_cons_of_mem _ (List.mem_append_right _ h)
  rw [f_X11_judge] at hf
  refine lv_iload_n hx hb dX11_judge_0 rfl (lv_at hl 1 rfl) ?_
  refine lv_iconst (v := 0) hx hb dX11_judge_1 (by decide) ?_
  refine lv_iconst (v := 1) hx hb dX11_judge_2 (by decide) ?_
  obtain ⟨z1, hz_z1, hf⟩ := o_bind hf
  refine k_calli (va_runS (As := [.int p1, .int (0 : Int32), .int (1 : Int32)]) (rest := []) ⟨hx, hb, hml, hown, hts⟩ (c_X11_in l D cI cZ  H.size p1 (0 : Int32) (1 : Int32) z1 hz_z1) (va_cwS 3 hts gX11_judge_X11_in rfl rfl rfl hd_X11_in ⟨Nat.le_of_ble_eq_true rfl, Nat.le_of_ble_eq_true rfl⟩) (k_preS hK hP hD hS hA hE [] (by decide) rfl) rfl rfl hl.1 rfl (lv_room (Nat.le_of_ble_eq_true rfl)) dX11_judge_3 ⟨Nat.zero_le _, Nat.zero_le _⟩) hP hD hS hA [] [none, none, none, none, none, none, none, none, none, none] 0 rfl (by decide) (by decide) rfl rfl (fun H locs hP hD hS => ?_)
  have hP : va_P D vwCl (ceM cI cZ th0 th1 th2 th3 th4 th5 th6 th7 th8 th9 u_th) H := hP
  have hD : va_D A (ceM cI cZ th0 th1 th2 th3 th4 th5 th6 th7 th8 th9 u_th) := hD
  refine lv_if_ne (tgt := 12) hx hb dX11_judge_6 (by decide) (fun c2 => ?_) (fun c2 => ?_)
  · have hf := (if_neg c2).symm.trans hf
    refine lv_aload_n hx hb dX11_judge_12 rfl (lv_at hl 0 rfl) ?_
    obtain ⟨z3, hz_z3, hf⟩ := o_bind hf
    refine k_calli (va_runV (As := []) (rest := []) ⟨hx, hb, hml, hown, hts⟩ (c_X11_faultOf l D cI cZ th0 th1 th2 th3 th4 th5 th6 th7 th8 th9 H.size u_th z3 hz_z3) (cwV 0 hts gX11_judge_X11_faultOf rfl rfl rfl ⟨rfl, hd_X11_faultOf⟩ ⟨Nat.le_of_ble_eq_true rfl, Nat.le_of_ble_eq_true rfl⟩) (k_preV hK hP hD hS hA hE [0, 1, 2, 3, 4, 5, 6, 7, 8, 9] (by decide) rfl (ci := 8) rfl rfl) rfl rfl hl.1 rfl (lv_room (Nat.le_of_ble_eq_true rfl)) dX11_judge_13 ⟨Nat.zero_le _, Nat.zero_le _⟩) hP hD hS hA [0, 1, 2, 3, 4, 5, 6, 7, 8, 9] [some 0, some 1, some 2, some 3, some 4, some 5, some 6, some 7, some 8, some 9] 10 rfl (by decide) (by decide) rfl rfl (fun H locs hP hD hS => ?_)
    have hP : va_P D vwCl (ceM cI cZ th0 th1 th2 th3 th4 th5 th6 th7 th8 th9 u_th) H := hP
    have hD : va_D A (ceM cI cZ th0 th1 th2 th3 th4 th5 th6 th7 th8 th9 u_th) := hD
    refine lv_if_lt (tgt := 22) hx hb dX11_judge_16 (by decide) (fun c4 => ?_) (fun c4 => ?_)
    · have hf := (if_pos c4).symm.trans hf
      refine lv_aload_n hx hb dX11_judge_22 rfl (lv_at hl 0 rfl) ?_
      obtain ⟨z5, hz_z5, hf⟩ := o_bind hf
      refine k_calli (va_runV (As := []) (rest := []) ⟨hx, hb, hml, hown, hts⟩ (c_X11_opens l D cI cZ th0 th1 th2 th3 th4 th5 th6 th7 th8 th9 H.size u_th z5 hz_z5) (cwV 0 hts gX11_judge_X11_opens rfl rfl rfl ⟨rfl, hd_X11_opens⟩ ⟨Nat.le_of_ble_eq_true rfl, Nat.le_of_ble_eq_true rfl⟩) (k_preV hK hP hD hS hA hE [0, 1, 2, 3, 4, 5, 6, 7, 8, 9] (by decide) rfl (ci := 8) rfl rfl) rfl rfl hl.1 rfl (lv_room (Nat.le_of_ble_eq_true rfl)) dX11_judge_23 ⟨Nat.zero_le _, Nat.zero_le _⟩) hP hD hS hA [0, 1, 2, 3, 4, 5, 6, 7, 8, 9] [some 0, some 1, some 2, some 3, some 4, some 5, some 6, some 7, some 8, some 9] 10 rfl (by decide) (by decide) rfl rfl (fun H locs hP hD hS => ?_)
      have hP : va_P D vwCl (ceM cI cZ th0 th1 th2 th3 th4 th5 th6 th7 th8 th9 u_th) H := hP
      have hD : va_D A (ceM cI cZ th0 th1 th2 th3 th4 th5 th6 th7 th8 th9 u_th) := hD
      refine lv_if_le (tgt := 32) hx hb dX11_judge_26 (by decide) (fun c6 => ?_) (fun c6 => ?_)
      · have hf := (if_pos c6).symm.trans hf
        refine lv_aload_n hx hb dX11_judge_32 rfl (lv_at hl 0 rfl) ?_
        refine lv_iconst (v := 0) hx hb dX11_judge_33 (by decide) ?_
        refine lv_bipush (v := -6) hx hb dX11_judge_34 (by decide) ?_
        obtain ⟨z7, hz_z7, hf⟩ := o_bind hf
        refine k_calli (va_runV (As := [.int (0 : Int32), .int (-6 : Int32)]) (rest := []) ⟨hx, hb, hml, hown, hts⟩ (c_X11_goText l D cI cZ th0 th1 th2 th3 th4 th5 th6 th7 th8 th9 H.size u_th (0 : Int32) (-6 : Int32) z7 hz_z7) (cwV 2 hts gX11_judge_X11_goText rfl rfl rfl ⟨rfl, hd_X11_goText⟩ ⟨Nat.le_of_ble_eq_true rfl, Nat.le_of_ble_eq_true rfl⟩) (k_preV hK hP hD hS hA hE [0, 1, 2, 3, 4, 5, 6, 7, 8, 9] (by decide) rfl (ci := 8) rfl rfl) rfl rfl hl.1 rfl (lv_room (Nat.le_of_ble_eq_true rfl)) dX11_judge_36 ⟨Nat.zero_le _, Nat.zero_le _⟩) hP hD hS hA [0, 1, 2, 3, 4, 5, 6, 7, 8, 9] [some 0, some 1, some 2, some 3, some 4, some 5, some 6, some 7, some 8, some 9] 10 rfl (by decide) (by decide) rfl rfl (fun H locs hP hD hS => ?_)
        have hP : va_P D vwCl (ceM cI cZ th0 th1 th2 th3 th4 th5 th6 th7 th8 th9 z7.2) H := hP
        have hD : va_D A (ceM cI cZ th0 th1 th2 th3 th4 th5 th6 th7 th8 th9 z7.2) := hD
        refine lv_istore_n (lv' := [(2, .int z7.1), (0, .ref th0), (1, .int p1)]) hx hb dX11_judge_39 rfl hl (by decide) rfl (fun ls hl => ?_)
        refine lv_iload_n hx hb dX11_judge_40 rfl (lv_at hl 0 rfl) ?_
        refine lv_if_lt (tgt := 48) hx hb dX11_judge_41 (by decide) (fun c8 => ?_) (fun c8 => ?_)
        · have hf := (if_pos c8).symm.trans hf
          refine lv_iload_n hx hb dX11_judge_48 rfl (lv_at hl 0 rfl) ?_
          refine lv_goto (tgt := 56) hx hb dX11_judge_49 (by decide) ?_
          exact k_iret (v := z7.1) (u := z7.2) hx hb hr hlocks hK hS eQ hf hP hD dX11_judge_56
        · have hf := (if_neg c8).symm.trans hf
          refine lv_iload_n hx hb dX11_judge_44 rfl (lv_at hl 2 rfl) ?_
          refine lv_if_ne (tgt := 52) hx hb dX11_judge_45 (by decide) (fun c9 => ?_) (fun c9 => ?_)
          · have hf := (if_neg c9).symm.trans hf
            refine lv_aload_n hx hb dX11_judge_52 rfl (lv_at hl 1 rfl) ?_
            refine va_get (D := D) (ci := 8) (v := .int (M_reason z7.2)) (C := RX11) (T := TX11) (N := 17) hx hb hts hi_X11 hown hK hP 0 rfl rfl 14 (by decide) (hts (.fieldLink RX11 79 "FairWheelModel" "reason" "I") (List.mem_of_getElem? (i := 1) rfl)) (fun _ h9 => h9) rfl dX11_judge_53 ?_
            exact k_iret (v := (M_reason z7.2)) (u := z7.2) hx hb hr hlocks hK hS eQ hf hP hD dX11_judge_56
          · have hf := (if_pos c9).symm.trans hf
            refine lv_iload_n hx hb dX11_judge_48 rfl (lv_at hl 0 rfl) ?_
            refine lv_goto (tgt := 56) hx hb dX11_judge_49 (by decide) ?_
            exact k_iret (v := z7.1) (u := z7.2) hx hb hr hlocks hK hS eQ hf hP hD dX11_judge_56
      · have hf := (if_neg c6).symm.trans hf
        refine lv_bipush (v := -3) hx hb dX11_judge_29 (by decide) ?_
        exact k_iret (v := (-3 : Int32)) (u := u_th) hx hb hr hlocks hK hS eQ hf hP hD dX11_judge_31
    · have hf := (if_neg c4).symm.trans hf
      refine lv_bipush (v := -5) hx hb dX11_judge_19 (by decide) ?_
      exact k_iret (v := (-5 : Int32)) (u := u_th) hx hb hr hlocks hK hS eQ hf hP hD dX11_judge_21
  · have hf := (if_pos c2).symm.trans hf
    refine lv_bipush (v := -2) hx hb dX11_judge_9 (by decide) ?_
    exact k_iret (v := (-2 : Int32)) (u := u_th) hx hb hr hlocks hK hS eQ hf hP hD dX11_judge_11
theorem hd_X11_barOfText : yX11_barOfText.cls ≠ "java/lang/invoke/MethodHandle" ∧ yX11_barOfText.cls ≠ "java/lang/invoke/VarHandle" ∧ (parseMethodDescriptor yX11_barOfText.desc).map (fun d => d.parameters.length) = some 0 := by decide +kernel
set_option maxHeartbeats 4000000 in
set_option maxRecDepth 100000 in
theorem c_X11_barOfText (l : Launch) (D : va_G) (cI cZ : ClassId) (th0 : Nat) (th1 : Nat) (th2 : Nat) (th3 : Nat) (th4 : Nat) (th5 : Nat) (th6 : Nat) (th7 : Nat) (th8 : Nat) (th9 : Nat) (sz : Nat) (u_th : sM) (z : Int32 × sM) (hf : f_X11_barOfText u_th = some z) : Met l yX11_barOfText wsX11_barOfText rmX11_barOfText (va_Pc [.ref th0] (wPr D cI cZ (ceM cI cZ th0 th1 th2 th3 th4 th5 th6 th7 th8 th9 u_th) sz)) (va_Qi (fun (r : Int32) (v : sM) => (r, v) = z) (fun (v : sM) t => wPo D cI cZ (va_A (ceM cI cZ th0 th1 th2 th3 th4 th5 th6 th7 th8 th9 u_th) sz) (ceM cI cZ th0 th1 th2 th3 th4 th5 th6 th7 th8 th9 v) t) (va_A (ceM cI cZ th0 th1 th2 th3 th4 th5 th6 th7 th8 th9 u_th) sz)) 0 0 (va_A (ceM cI cZ th0 th1 th2 th3 th4 th5 th6 th7 th8 th9 u_th) sz) := by
  refine k_enter (D := D) (cI := cI) (cZ := cZ) (wl := ceM cI cZ th0 th1 th2 th3 th4 th5 th6 th7 th8 th9 u_th) (sz := sz) (av := [.ref th0]) (cc := cX11_barOfText) (maxL := 1) (ret := (some .int)) (Qc := fun A => va_Qi (fun (r : Int32) (v : sM) => (r, v) = z) (fun (v : sM) t => wPo D cI cZ (A) (ceM cI cZ th0 th1 th2 th3 th4 th5 th6 th7 th8 th9 v) t) (A)) (by decide) rfl (Nat.le_of_ble_eq_true rfl) ?_
  intro p e s m below meth c ls A Q H locs eQ hx hb hr hml hts hown hlocks hK hP hD hS hA hE hl
  have hown : s.vm.findClass RX11 = some m.cls := hown
  have hl : lv_has ls 1 [(0, .ref th0)] := hl
  rw [f_X11_barOfText] at hf
  refine lv_aload_n hx hb dX11_barOfText_0 rfl (lv_at hl 0 rfl) ?_
  obtain ⟨z1, hz_z1, hf⟩ := o_bind hf
  refine k_calli (va_runV (As := []) (rest := []) ⟨hx, hb, hml, hown, hts⟩ (c_X11_faultOf l D cI cZ th0 th1 th2 th3 th4 th5 th6 th7 th8 th9 H.size u_th z1 hz_z1) (cwV 0 hts gX11_barOfText_X11_faultOf rfl rfl rfl ⟨rfl, hd_X11_faultOf⟩ ⟨Nat.le_of_ble_eq_true rfl, Nat.le_of_ble_eq_true rfl⟩) (k_preV hK hP hD hS hA hE [0, 1, 2, 3, 4, 5, 6, 7, 8, 9] (by decide) rfl (ci := 8) rfl rfl) rfl rfl hl.1 rfl (lv_room (Nat.le_of_ble_eq_true rfl)) dX11_barOfText_1 ⟨Nat.zero_le _, Nat.zero_le _⟩) hP hD hS hA [0, 1, 2, 3, 4, 5, 6, 7, 8, 9] [some 0, some 1, some 2, some 3, some 4, some 5, some 6, some 7, some 8, some 9] 10 rfl (by decide) (by decide) rfl rfl (fun H locs hP hD hS => ?_)
  have hP : va_P D vwCl (ceM cI cZ th0 th1 th2 th3 th4 th5 th6 th7 th8 th9 u_th) H := hP
  have hD : va_D A (ceM cI cZ th0 th1 th2 th3 th4 th5 th6 th7 th8 th9 u_th) := hD
  refine lv_if_lt (tgt := 12) hx hb dX11_barOfText_4 (by decide) (fun c2 => ?_) (fun c2 => ?_)
  · have hf := (if_pos c2).symm.trans hf
    refine lv_aload_n hx hb dX11_barOfText_12 rfl (lv_at hl 0 rfl) ?_
    obtain ⟨z3, hz_z3, hf⟩ := o_bind hf
    refine k_calli (va_runV (As := []) (rest := []) ⟨hx, hb, hml, hown, hts⟩ (c_X11_opens l D cI cZ th0 th1 th2 th3 th4 th5 th6 th7 th8 th9 H.size u_th z3 hz_z3) (cwV 0 hts gX11_barOfText_X11_opens rfl rfl rfl ⟨rfl, hd_X11_opens⟩ ⟨Nat.le_of_ble_eq_true rfl, Nat.le_of_ble_eq_true rfl⟩) (k_preV hK hP hD hS hA hE [0, 1, 2, 3, 4, 5, 6, 7, 8, 9] (by decide) rfl (ci := 8) rfl rfl) rfl rfl hl.1 rfl (lv_room (Nat.le_of_ble_eq_true rfl)) dX11_barOfText_13 ⟨Nat.zero_le _, Nat.zero_le _⟩) hP hD hS hA [0, 1, 2, 3, 4, 5, 6, 7, 8, 9] [some 0, some 1, some 2, some 3, some 4, some 5, some 6, some 7, some 8, some 9] 10 rfl (by decide) (by decide) rfl rfl (fun H locs hP hD hS => ?_)
    have hP : va_P D vwCl (ceM cI cZ th0 th1 th2 th3 th4 th5 th6 th7 th8 th9 u_th) H := hP
    have hD : va_D A (ceM cI cZ th0 th1 th2 th3 th4 th5 th6 th7 th8 th9 u_th) := hD
    refine lv_if_le (tgt := 24) hx hb dX11_barOfText_16 (by decide) (fun c4 => ?_) (fun c4 => ?_)
    · have hf := (if_pos c4).symm.trans hf
      refine lv_aload_n hx hb dX11_barOfText_24 rfl (lv_at hl 0 rfl) ?_
      refine lv_iconst (v := 0) hx hb dX11_barOfText_25 (by decide) ?_
      refine lv_bipush (v := -6) hx hb dX11_barOfText_26 (by decide) ?_
      obtain ⟨z5, hz_z5, hf⟩ := o_bind hf
      refine k_calli (va_runV (As := [.int (0 : Int32), .int (-6 : Int32)]) (rest := []) ⟨hx, hb, hml, hown, hts⟩ (c_X11_goText l D cI cZ th0 th1 th2 th3 th4 th5 th6 th7 th8 th9 H.size u_th (0 : Int32) (-6 : Int32) z5 hz_z5) (cwV 2 hts gX11_barOfText_X11_goText rfl rfl rfl ⟨rfl, hd_X11_goText⟩ ⟨Nat.le_of_ble_eq_true rfl, Nat.le_of_ble_eq_true rfl⟩) (k_preV hK hP hD hS hA hE [0, 1, 2, 3, 4, 5, 6, 7, 8, 9] (by decide) rfl (ci := 8) rfl rfl) rfl rfl hl.1 rfl (lv_room (Nat.le_of_ble_eq_true rfl)) dX11_barOfText_28 ⟨Nat.zero_le _, Nat.zero_le _⟩) hP hD hS hA [0, 1, 2, 3, 4, 5, 6, 7, 8, 9] [some 0, some 1, some 2, some 3, some 4, some 5, some 6, some 7, some 8, some 9] 10 rfl (by decide) (by decide) rfl rfl (fun H locs hP hD hS => ?_)
      have hP : va_P D vwCl (ceM cI cZ th0 th1 th2 th3 th4 th5 th6 th7 th8 th9 z5.2) H := hP
      have hD : va_D A (ceM cI cZ th0 th1 th2 th3 th4 th5 th6 th7 th8 th9 z5.2) := hD
      refine lv_if_lt (tgt := 39) hx hb dX11_barOfText_31 (by decide) (fun c6 => ?_) (fun c6 => ?_)
      · have hf := (if_pos c6).symm.trans hf
        refine lv_iconst (v := 0) hx hb dX11_barOfText_39 (by decide) ?_
        exact k_iret (v := (0 : Int32)) (u := z5.2) hx hb hr hlocks hK hS eQ hf hP hD dX11_barOfText_40
      · have hf := (if_neg c6).symm.trans hf
        refine lv_bipush (v := -5) hx hb dX11_barOfText_34 (by decide) ?_
        refine lv_goto (tgt := 40) hx hb dX11_barOfText_36 (by decide) ?_
        exact k_iret (v := (-5 : Int32)) (u := z5.2) hx hb hr hlocks hK hS eQ hf hP hD dX11_barOfText_40
    · have hf := (if_neg c4).symm.trans hf
      refine lv_bipush (v := -3) hx hb dX11_barOfText_19 (by decide) ?_
      refine lv_goto (tgt := 40) hx hb dX11_barOfText_21 (by decide) ?_
      exact k_iret (v := (-3 : Int32)) (u := u_th) hx hb hr hlocks hK hS eQ hf hP hD dX11_barOfText_40
  · have hf := (if_neg c2).symm.trans hf
    refine lv_bipush (v := -5) hx hb dX11_barOfText_7 (by decide) ?_
    refine lv_goto (tgt := 40) hx hb dX11_barOfText_9 (by decide) ?_
    exact k_iret (v := (-5 : Int32)) (u := u_th) hx hb hr hlocks hK hS eQ hf hP hD dX11_barOfText_40
theorem hd_X11_done : yX11_done.cls ≠ "java/lang/invoke/MethodHandle" ∧ yX11_done.cls ≠ "java/lang/invoke/VarHandle" ∧ (parseMethodDescriptor yX11_done.desc).map (fun d => d.parameters.length) = some 0 := by decide +kernel
set_option maxHeartbeats 4000000 in
set_option maxRecDepth 100000 in
theorem c_X11_done (l : Launch) (D : va_G) (cI cZ : ClassId) (th0 : Nat) (th1 : Nat) (th2 : Nat) (th3 : Nat) (th4 : Nat) (th5 : Nat) (th6 : Nat) (th7 : Nat) (th8 : Nat) (th9 : Nat) (sz : Nat) (u_th : sM) (z : Int32 × sM) (hf : f_X11_done u_th = some z) : Met l yX11_done wsX11_done rmX11_done (va_Pc [.ref th0] (wPr D cI cZ (ceM cI cZ th0 th1 th2 th3 th4 th5 th6 th7 th8 th9 u_th) sz)) (va_Qi (fun (r : Int32) (v : sM) => (r, v) = z) (fun (v : sM) t => wPo D cI cZ (va_A (ceM cI cZ th0 th1 th2 th3 th4 th5 th6 th7 th8 th9 u_th) sz) (ceM cI cZ th0 th1 th2 th3 th4 th5 th6 th7 th8 th9 v) t) (va_A (ceM cI cZ th0 th1 th2 th3 th4 th5 th6 th7 th8 th9 u_th) sz)) 0 0 (va_A (ceM cI cZ th0 th1 th2 th3 th4 th5 th6 th7 th8 th9 u_th) sz) := by
  refine k_enter (D := D) (cI := cI) (cZ := cZ) (wl := ceM cI cZ th0 th1 th2 th3 th4 th5 th6 th7 th8 th9 u_th) (sz := sz) (av := [.ref th0]) (cc := cX11_done) (maxL := 3) (ret := (some .int)) (Qc := fun A => va_Qi (fun (r : Int32) (v : sM) => (r, v) = z) (fun (v : sM) t => wPo D cI cZ (A) (ceM cI cZ th0 th1 th2 th3 th4 th5 th6 th7 th8 th9 v) t) (A)) (by decide) rfl (Nat.le_of_ble_eq_true rfl) ?_
  intro p e s m below meth c ls A Q H locs eQ hx hb hr hml hts hown hlocks hK hP hD hS hA hE hl
  have hown : s.vm.findClass RX11 = some m.cls := hown
  have hl : lv_has ls 3 [(0, .ref th0)] := hl
  have hi_X11 : ∀ w ∈ wsX110, w ∈ wsX11_done := fun w h => List.mem_cons_of_mem _ (List.mem_append_right _ h)
  have hL21 : ∀ (n : Nat), ∀ (v2 : Int32) (u_th : sM) (H : Heap) (locs : List Loc) (ls : Array Slot), lv_has ls 3 [(0, .ref th0), (2, .int v2)] → va_P D vwCl (ceM cI cZ th0 th1 th2 th3 th4 th5 th6 th7 th8 th9 u_th) H → va_D A (ceM cI cZ th0 th1 th2 th3 th4 th5 th6 th7 th8 th9 u_th) → va_S A s.heap H locs → f_X11_done_L21 n v2 u_th = some z → W p l e (headSpec wsX11_done rmX11_done).room s m ([.ref th0] : List Value).toArray below meth c H locs 0 0 Q (F0 m 21 ls []) := by
    intro n
    induction n with
    | zero =>
      intro v2 u_th H locs ls hl hP hD hS hf
      exact absurd (show (none : Option (Int32 × sM)) = some z from hf) (fun h => by cases h)
    | succ n ih =>
      intro v2 u_th H locs ls hl hP hD hS hf
      rw [f_X11_done_L21] at hf
      refine lv_iload_n hx hb dX11_done_21 rfl (lv_at hl 1 rfl) ?_
      refine lv_bipush (v := 8) hx hb dX11_done_22 (by decide) ?_
      refine lv_icmp_ge (tgt := 57) hx hb dX11_done_24 (by decide) (fun c3 => ?_) (fun c3 => ?_)
      · have hf := (if_pos c3).symm.trans hf
        refine lv_aload_n hx hb dX11_done_57 rfl (lv_at hl 0 rfl) ?_
        refine va_get (D := D) (ci := 8) (v := .int (M_signs u_th)) (C := RX11) (T := TX11) (N := 17) hx hb hts hi_X11 hown hK hP 0 rfl rfl 7 (by decide) (hts (.fieldLink RX11 50 "FairWheelModel" "signs" "I") (List.mem_of_getElem? (i := 7) rfl)) (fun _ h9 => h9) rfl dX11_done_58 ?_
        refine lv_istore_n (lv' := [(2, .int (M_signs u_th)), (0, .ref th0)]) hx hb dX11_done_61 rfl hl (by decide) rfl (fun ls hl => ?_)
        refine lv_aload_n hx hb dX11_done_62 rfl (lv_at hl 1 rfl) ?_
        refine lv_iconst (v := 0) hx hb dX11_done_63 (by decide) ?_
        refine va_put (D := D) (ci := 8) (v := .int (0 : Int32)) (ty := .int) (C := RX11) (T := TX11) (N := 17) hx hb hts hi_X11 tyX11 tyX11_ok nmX11 hown hK hP hD hS 0 rfl rfl 7 (by decide) (hts (.fieldLink RX11 50 "FairWheelModel" "signs" "I") (List.mem_of_getElem? (i := 7) rfl)) (fun _ h9 => h9) rfl (by decide +kernel) rfl rfl (Nat.le_of_ble_eq_true rfl) dX11_done_64 (fun H locs hP hD hS => ?_)
        have hP : va_P D vwCl (ceM cI cZ th0 th1 th2 th3 th4 th5 th6 th7 th8 th9 ((M_weight u_th), (M_sits u_th), (M_stones u_th), (M_at u_th), (M_drag u_th), (M_sights u_th), (M_sight u_th), (0 : Int32), (M_pad u_th), (M_foot u_th), (M_turned u_th), (M_bothWays u_th), (M_now u_th), (M_heap u_th), (M_reason u_th), (M_image u_th), (M_isKept u_th))) H := hP
        have hD : va_D A (ceM cI cZ th0 th1 th2 th3 th4 th5 th6 th7 th8 th9 ((M_weight u_th), (M_sits u_th), (M_stones u_th), (M_at u_th), (M_drag u_th), (M_sights u_th), (M_sight u_th), (0 : Int32), (M_pad u_th), (M_foot u_th), (M_turned u_th), (M_bothWays u_th), (M_now u_th), (M_heap u_th), (M_reason u_th), (M_image u_th), (M_isKept u_th))) := hD
        refine lv_iload_n hx hb dX11_done_67 rfl (lv_at hl 0 rfl) ?_
        exact k_iret (v := (M_signs u_th)) (u := ((M_weight u_th), (M_sits u_th), (M_stones u_th), (M_at u_th), (M_drag u_th), (M_sights u_th), (M_sight u_th), (0 : Int32), (M_pad u_th), (M_foot u_th), (M_turned u_th), (M_bothWays u_th), (M_now u_th), (M_heap u_th), (M_reason u_th), (M_image u_th), (M_isKept u_th))) hx hb hr hlocks hK hS eQ hf hP hD dX11_done_68
      · have hf := (if_neg c3).symm.trans hf
        refine lv_aload_n hx hb dX11_done_27 rfl (lv_at hl 0 rfl) ?_
        refine va_get (D := D) (ci := 8) (v := .ref th2) (C := RX11) (T := TX11) (N := 17) hx hb hts hi_X11 hown hK hP 0 rfl rfl 1 (by decide) (hts (.fieldLink RX11 13 "FairWheelModel" "sits" "[I") (List.mem_of_getElem? (i := 3) rfl)) (fun _ h9 => h9) rfl dX11_done_28 ?_
        refine lv_iload_n hx hb dX11_done_31 rfl (lv_at hl 1 rfl) ?_
        refine lv_aload_n hx hb dX11_done_32 rfl (lv_at hl 0 rfl) ?_
        refine va_get (D := D) (ci := 8) (v := .ref th6) (C := RX11) (T := TX11) (N := 17) hx hb hts hi_X11 hown hK hP 0 rfl rfl 12 (by decide) (hts (.fieldLink RX11 29 "FairWheelModel" "now" "[I") (List.mem_of_getElem? (i := 4) rfl)) (fun _ h9 => h9) rfl dX11_done_33 ?_
        refine lv_iload_n hx hb dX11_done_36 rfl (lv_at hl 1 rfl) ?_
        by_cases c4 : v2 < 0 ∨ 8 ≤ v2.toNatClampNeg
        · have hf := (if_pos c4).symm.trans hf
          cases hf
        have hf := (if_neg c4).symm.trans hf
        refine va_iald hx hb hK hP 6 0 rfl rfl (show vp_in v2 8 from c4) dX11_done_37 ?_
        by_cases c5 : v2 < 0 ∨ 8 ≤ v2.toNatClampNeg
        · have hf := (if_pos c5).symm.trans hf
          cases hf
        have hf := (if_neg c5).symm.trans hf
        refine va_iast hx hb hK hP hD hS 2 0 rfl rfl (show vp_in v2 8 from c5) dX11_done_38 (fun H locs hP hD hS => ?_)
        have hP : va_P D vwCl (ceM cI cZ th0 th1 th2 th3 th4 th5 th6 th7 th8 th9 ((M_weight u_th), (upd (M_sits u_th) v2.toNatClampNeg ((M_now u_th) v2.toNatClampNeg)), (M_stones u_th), (M_at u_th), (M_drag u_th), (M_sights u_th), (M_sight u_th), (M_signs u_th), (M_pad u_th), (M_foot u_th), (M_turned u_th), (M_bothWays u_th), (M_now u_th), (M_heap u_th), (M_reason u_th), (M_image u_th), (M_isKept u_th))) H := hP
        have hD : va_D A (ceM cI cZ th0 th1 th2 th3 th4 th5 th6 th7 th8 th9 ((M_weight u_th), (upd (M_sits u_th) v2.toNatClampNeg ((M_now u_th) v2.toNatClampNeg)), (M_stones u_th), (M_at u_th), (M_drag u_th), (M_sights u_th), (M_sight u_th), (M_signs u_th), (M_pad u_th), (M_foot u_th), (M_turned u_th), (M_bothWays u_th), (M_now u_th), (M_heap u_th), (M_reason u_th), (M_image u_th), (M_isKept u_th))) := hD
        refine lv_aload_n hx hb dX11_done_39 rfl (lv_at hl 0 rfl) ?_
        refine va_get (D := D) (ci := 8) (v := .ref th3) (C := RX11) (T := TX11) (N := 17) hx hb hts hi_X11 hown hK hP 0 rfl rfl 2 (by decide) (hts (.fieldLink RX11 16 "FairWheelModel" "stones" "[I") (List.mem_of_getElem? (i := 5) rfl)) (fun _ h9 => h9) rfl dX11_done_40 ?_
        refine lv_iload_n hx hb dX11_done_43 rfl (lv_at hl 1 rfl) ?_
        refine lv_aload_n hx hb dX11_done_44 rfl (lv_at hl 0 rfl) ?_
        refine va_get (D := D) (ci := 8) (v := .ref th7) (C := RX11) (T := TX11) (N := 17) hx hb hts hi_X11 hown hK hP 0 rfl rfl 13 (by decide) (hts (.fieldLink RX11 32 "FairWheelModel" "heap" "[I") (List.mem_of_getElem? (i := 6) rfl)) (fun _ h9 => h9) rfl dX11_done_45 ?_
        refine lv_iload_n hx hb dX11_done_48 rfl (lv_at hl 1 rfl) ?_
        by_cases c6 : v2 < 0 ∨ 8 ≤ v2.toNatClampNeg
        · have hf := (if_pos c6).symm.trans hf
          cases hf
        have hf := (if_neg c6).symm.trans hf
        refine va_iald hx hb hK hP 7 0 rfl rfl (show vp_in v2 8 from c6) dX11_done_49 ?_
        by_cases c7 : v2 < 0 ∨ 8 ≤ v2.toNatClampNeg
        · have hf := (if_pos c7).symm.trans hf
          cases hf
        have hf := (if_neg c7).symm.trans hf
        refine va_iast hx hb hK hP hD hS 3 0 rfl rfl (show vp_in v2 8 from c7) dX11_done_50 (fun H locs hP hD hS => ?_)
        have hP : va_P D vwCl (ceM cI cZ th0 th1 th2 th3 th4 th5 th6 th7 th8 th9 ((M_weight u_th), (upd (M_sits u_th) v2.toNatClampNeg ((M_now u_th) v2.toNatClampNeg)), (upd (M_stones u_th) v2.toNatClampNeg ((M_heap u_th) v2.toNatClampNeg)), (M_at u_th), (M_drag u_th), (M_sights u_th), (M_sight u_th), (M_signs u_th), (M_pad u_th), (M_foot u_th), (M_turned u_th), (M_bothWays u_th), (M_now u_th), (M_heap u_th), (M_reason u_th), (M_image u_th), (M_isKept u_th))) H := hP
        have hD : va_D A (ceM cI cZ th0 th1 th2 th3 th4 th5 th6 th7 th8 th9 ((M_weight u_th), (upd (M_sits u_th) v2.toNatClampNeg ((M_now u_th) v2.toNatClampNeg)), (upd (M_stones u_th) v2.toNatClampNeg ((M_heap u_th) v2.toNatClampNeg)), (M_at u_th), (M_drag u_th), (M_sights u_th), (M_sight u_th), (M_signs u_th), (M_pad u_th), (M_foot u_th), (M_turned u_th), (M_bothWays u_th), (M_now u_th), (M_heap u_th), (M_reason u_th), (M_image u_th), (M_isKept u_th))) := hD
        refine lv_iinc (v := (v2 + (1 : Int32))) (lv' := [(2, .int (v2 + (1 : Int32))), (0, .ref th0)]) hx hb dX11_done_51 hl (k := 1) rfl rfl (by decide) rfl (fun ls hl => ?_)
        refine lv_goto (tgt := 21) hx hb dX11_done_54 (by decide) ?_
        exact ih (v2 + (1 : Int32)) ((M_weight u_th), (upd (M_sits u_th) v2.toNatClampNeg ((M_now u_th) v2.toNatClampNeg)), (upd (M_stones u_th) v2.toNatClampNeg ((M_heap u_th) v2.toNatClampNeg)), (M_at u_th), (M_drag u_th), (M_sights u_th), (M_sight u_th), (M_signs u_th), (M_pad u_th), (M_foot u_th), (M_turned u_th), (M_bothWays u_th), (M_now u_th), (M_heap u_th), (M_reason u_th), (M_image u_th), (M_isKept u_th)) _ _ ls (lv_sub hl [1, 0] rfl) hP hD hS hf
  rw [f_X11_done] at hf
  refine lv_aload_n hx hb dX11_done_0 rfl (lv_at hl 0 rfl) ?_
  obtain ⟨z1, hz_z1, hf⟩ := o_bind hf
  refine k_calli (va_runV (As := []) (rest := []) ⟨hx, hb, hml, hown, hts⟩ (c_X11_barOfText l D cI cZ th0 th1 th2 th3 th4 th5 th6 th7 th8 th9 H.size u_th z1 hz_z1) (cwV 0 hts gX11_done_X11_barOfText rfl rfl rfl ⟨rfl, hd_X11_barOfText⟩ ⟨Nat.le_of_ble_eq_true rfl, Nat.le_of_ble_eq_true rfl⟩) (k_preV hK hP hD hS hA hE [0, 1, 2, 3, 4, 5, 6, 7, 8, 9] (by decide) rfl (ci := 8) rfl rfl) rfl rfl hl.1 rfl (lv_room (Nat.le_of_ble_eq_true rfl)) dX11_done_1 ⟨Nat.zero_le _, Nat.zero_le _⟩) hP hD hS hA [0, 1, 2, 3, 4, 5, 6, 7, 8, 9] [some 0, some 1, some 2, some 3, some 4, some 5, some 6, some 7, some 8, some 9] 10 rfl (by decide) (by decide) rfl rfl (fun H locs hP hD hS => ?_)
  have hP : va_P D vwCl (ceM cI cZ th0 th1 th2 th3 th4 th5 th6 th7 th8 th9 z1.2) H := hP
  have hD : va_D A (ceM cI cZ th0 th1 th2 th3 th4 th5 th6 th7 th8 th9 z1.2) := hD
  refine lv_istore_n (lv' := [(1, .int z1.1), (0, .ref th0)]) hx hb dX11_done_4 rfl hl (by decide) rfl (fun ls hl => ?_)
  refine lv_iload_n hx hb dX11_done_5 rfl (lv_at hl 0 rfl) ?_
  refine lv_if_ge (tgt := 11) hx hb dX11_done_6 (by decide) (fun c2 => ?_) (fun c2 => ?_)
  · have hf := (if_pos c2).symm.trans hf
    refine lv_aload_n hx hb dX11_done_11 rfl (lv_at hl 1 rfl) ?_
    refine lv_aload_n hx hb dX11_done_12 rfl (lv_at hl 1 rfl) ?_
    refine va_get (D := D) (ci := 8) (v := .int (M_foot z1.2)) (C := RX11) (T := TX11) (N := 17) hx hb hts hi_X11 hown hK hP 0 rfl rfl 9 (by decide) (hts (.fieldLink RX11 60 "FairWheelModel" "foot" "I") (List.mem_of_getElem? (i := 1) rfl)) (fun _ h9 => h9) rfl dX11_done_13 ?_
    refine va_put (D := D) (ci := 8) (v := .int (M_foot z1.2)) (ty := .int) (C := RX11) (T := TX11) (N := 17) hx hb hts hi_X11 tyX11 tyX11_ok nmX11 hown hK hP hD hS 0 rfl rfl 3 (by decide) (hts (.fieldLink RX11 57 "FairWheelModel" "at" "I") (List.mem_of_getElem? (i := 2) rfl)) (fun _ h9 => h9) rfl (by decide +kernel) rfl rfl (Nat.le_of_ble_eq_true rfl) dX11_done_16 (fun H locs hP hD hS => ?_)
    have hP : va_P D vwCl (ceM cI cZ th0 th1 th2 th3 th4 th5 th6 th7 th8 th9 ((M_weight z1.2), (M_sits z1.2), (M_stones z1.2), (M_foot z1.2), (M_drag z1.2), (M_sights z1.2), (M_sight z1.2), (M_signs z1.2), (M_pad z1.2), (M_foot z1.2), (M_turned z1.2), (M_bothWays z1.2), (M_now z1.2), (M_heap z1.2), (M_reason z1.2), (M_image z1.2), (M_isKept z1.2))) H := hP
    have hD : va_D A (ceM cI cZ th0 th1 th2 th3 th4 th5 th6 th7 th8 th9 ((M_weight z1.2), (M_sits z1.2), (M_stones z1.2), (M_foot z1.2), (M_drag z1.2), (M_sights z1.2), (M_sight z1.2), (M_signs z1.2), (M_pad z1.2), (M_foot z1.2), (M_turned z1.2), (M_bothWays z1.2), (M_now z1.2), (M_heap z1.2), (M_reason z1.2), (M_image z1.2), (M_isKept z1.2))) := hD
    refine lv_iconst (v := 0) hx hb dX11_done_19 (by decide) ?_
    refine lv_istore_n (lv' := [(2, .int (0 : Int32)), (1, .int z1.1), (0, .ref th0)]) hx hb dX11_done_20 rfl hl (by decide) rfl (fun ls hl => ?_)
    exact hL21 oF (0 : Int32) ((M_weight z1.2), (M_sits z1.2), (M_stones z1.2), (M_foot z1.2), (M_drag z1.2), (M_sights z1.2), (M_sight z1.2), (M_signs z1.2), (M_pad z1.2), (M_foot z1.2), (M_turned z1.2), (M_bothWays z1.2), (M_now z1.2), (M_heap z1.2), (M_reason z1.2), (M_image z1.2), (M_isKept z1.2)) _ _ ls (lv_sub hl [2, 0] rfl) hP hD hS hf
  · have hf := (if_neg c2).symm.trans hf
    refine lv_iload_n hx hb dX11_done_9 rfl (lv_at hl 0 rfl) ?_
    exact k_iret (v := z1.1) (u := z1.2) hx hb hr hlocks hK hS eQ hf hP hD dX11_done_10
theorem hd_X11_foot : yX11_foot.cls ≠ "java/lang/invoke/MethodHandle" ∧ yX11_foot.cls ≠ "java/lang/invoke/VarHandle" ∧ (parseMethodDescriptor yX11_foot.desc).map (fun d => d.parameters.length) = some 0 := by decide +kernel
set_option maxHeartbeats 4000000 in
set_option maxRecDepth 100000 in
theorem c_X11_foot (l : Launch) (D : va_G) (cI cZ : ClassId) (th0 : Nat) (th1 : Nat) (th2 : Nat) (th3 : Nat) (th4 : Nat) (th5 : Nat) (th6 : Nat) (th7 : Nat) (th8 : Nat) (th9 : Nat) (sz : Nat) (u_th : sM) (z : Int32 × Unit) (hf : f_X11_foot u_th = some z) : Met l yX11_foot wsX11_foot rmX11_foot (va_Pc [.ref th0] (wPr D cI cZ (ceM cI cZ th0 th1 th2 th3 th4 th5 th6 th7 th8 th9 u_th) sz)) (va_Qi (fun (r : Int32) (v : Unit) => (r, v) = z) (fun (v : Unit) t => wPo D cI cZ (va_A (ceM cI cZ th0 th1 th2 th3 th4 th5 th6 th7 th8 th9 u_th) sz) (ceM cI cZ th0 th1 th2 th3 th4 th5 th6 th7 th8 th9 u_th) t) (va_A (ceM cI cZ th0 th1 th2 th3 th4 th5 th6 th7 th8 th9 u_th) sz)) 0 0 (va_A (ceM cI cZ th0 th1 th2 th3 th4 th5 th6 th7 th8 th9 u_th) sz) := by
  refine k_enter (D := D) (cI := cI) (cZ := cZ) (wl := ceM cI cZ th0 th1 th2 th3 th4 th5 th6 th7 th8 th9 u_th) (sz := sz) (av := [.ref th0]) (cc := cX11_foot) (maxL := 1) (ret := (some .int)) (Qc := fun A => va_Qi (fun (r : Int32) (v : Unit) => (r, v) = z) (fun (v : Unit) t => wPo D cI cZ (A) (ceM cI cZ th0 th1 th2 th3 th4 th5 th6 th7 th8 th9 u_th) t) (A)) (by decide) rfl (Nat.le_of_ble_eq_true rfl) ?_
  intro p e s m below meth c ls A Q H locs eQ hx hb hr hml hts hown hlocks hK hP hD hS hA hE hl
  have hown : s.vm.findClass RX11 = some m.cls := hown
  have hl : lv_has ls 1 [(0, .ref th0)] := hl
  have hi_X11 : ∀ w ∈ wsX110, w ∈ wsX11_foot := fun w h => List.mem_cons_of_mem _ (List.mem_append_right _ h)
  rw [f_X11_foot] at hf
  refine lv_aload_n hx hb dX11_foot_0 rfl (lv_at hl 0 rfl) ?_
  refine va_get (D := D) (ci := 8) (v := .int (M_at u_th)) (C := RX11) (T := TX11) (N := 17) hx hb hts hi_X11 hown hK hP 0 rfl rfl 3 (by decide) (hts (.fieldLink RX11 57 "FairWheelModel" "at" "I") (List.mem_of_getElem? (i := 1) rfl)) (fun _ h9 => h9) rfl dX11_foot_1 ?_
  exact k_iret (v := (M_at u_th)) (u := ()) hx hb hr hlocks hK hS eQ hf hP hD dX11_foot_4
theorem hd_X11_car : yX11_car.cls ≠ "java/lang/invoke/MethodHandle" ∧ yX11_car.cls ≠ "java/lang/invoke/VarHandle" ∧ (parseMethodDescriptor yX11_car.desc).map (fun d => d.parameters.length) = some 2 := by decide +kernel
set_option maxHeartbeats 4000000 in
set_option maxRecDepth 100000 in
theorem c_X11_car (l : Launch) (D : va_G) (cI cZ : ClassId) (th0 : Nat) (th1 : Nat) (th2 : Nat) (th3 : Nat) (th4 : Nat) (th5 : Nat) (th6 : Nat) (th7 : Nat) (th8 : Nat) (th9 : Nat) (sz : Nat) (u_th : sM) (p1 : Int32) (p2 : Int32) (z : Int32 × Unit) (hf : f_X11_car u_th p1 p2 = some z) : Met l yX11_car wsX11_car rmX11_car (va_Pc [.ref th0, .int p1, .int p2] (wPr D cI cZ (ceM cI cZ th0 th1 th2 th3 th4 th5 th6 th7 th8 th9 u_th) sz)) (va_Qi (fun (r : Int32) (v : Unit) => (r, v) = z) (fun (v : Unit) t => wPo D cI cZ (va_A (ceM cI cZ th0 th1 th2 th3 th4 th5 th6 th7 th8 th9 u_th) sz) (ceM cI cZ th0 th1 th2 th3 th4 th5 th6 th7 th8 th9 u_th) t) (va_A (ceM cI cZ th0 th1 th2 th3 th4 th5 th6 th7 th8 th9 u_th) sz)) 0 0 (va_A (ceM cI cZ th0 th1 th2 th3 th4 th5 th6 th7 th8 th9 u_th) sz) := by
  refine k_enter (D := D) (cI := cI) (cZ := cZ) (wl := ceM cI cZ th0 th1 th2 th3 th4 th5 th6 th7 th8 th9 u_th) (sz := sz) (av := [.ref th0, .int p1, .int p2]) (cc := cX11_car) (maxL := 3) (ret := (some .int)) (Qc := fun A => va_Qi (fun (r : Int32) (v : Unit) => (r, v) = z) (fun (v : Unit) t => wPo D cI cZ (A) (ceM cI cZ th0 th1 th2 th3 th4 th5 th6 th7 th8 th9 u_th) t) (A)) (by decide) rfl (Nat.le_of_ble_eq_true rfl) ?_
  intro p e s m below meth c ls A Q H locs eQ hx hb hr hml hts hown hlocks hK hP hD hS hA hE hl
  have hown : s.vm.findClass RX11 = some m.cls := hown
  have hl : lv_has ls 3 [(0, .ref th0), (1, .int p1), (2, .int p2)] := hl
  have hi_X11 : ∀ w ∈ wsX110, w ∈ wsX11_car := fun w h => List.mem_cons_of_mem _ (List.mem_append_right _ h)
  rw [f_X11_car] at hf
  refine lv_iload_n hx hb dX11_car_0 rfl (lv_at hl 1 rfl) ?_
  obtain ⟨z1, hz_z1, hf⟩ := o_bind hf
  refine k_calli (va_runS (As := [.int p1]) (rest := []) ⟨hx, hb, hml, hown, hts⟩ (c_X11_is8 l D cI cZ  H.size p1 z1 hz_z1) (va_cwS 1 hts gX11_car_X11_is8 rfl rfl rfl hd_X11_is8 ⟨Nat.le_of_ble_eq_true rfl, Nat.le_of_ble_eq_true rfl⟩) (k_preS hK hP hD hS hA hE [] (by decide) rfl) rfl rfl hl.1 rfl (lv_room (Nat.le_of_ble_eq_true rfl)) dX11_car_1 ⟨Nat.zero_le _, Nat.zero_le _⟩) hP hD hS hA [] [none, none, none, none, none, none, none, none, none, none] 0 rfl (by decide) (by decide) rfl rfl (fun H locs hP hD hS => ?_)
  have hP : va_P D vwCl (ceM cI cZ th0 th1 th2 th3 th4 th5 th6 th7 th8 th9 u_th) H := hP
  have hD : va_D A (ceM cI cZ th0 th1 th2 th3 th4 th5 th6 th7 th8 th9 u_th) := hD
  refine lv_if_ne (tgt := 9) hx hb dX11_car_4 (by decide) (fun c2 => ?_) (fun c2 => ?_)
  · have hf := (if_neg c2).symm.trans hf
    refine lv_iload_n hx hb dX11_car_9 rfl (lv_at hl 2 rfl) ?_
    by_cases c3 : p2 = 0
    · have hf := (if_pos c3).symm.trans hf
      refine lv_lookup hx hb dX11_car_10 (by decide) (off := 26) (tgt := 36) (by rw [c3]; rfl) (by decide) ?_
      refine lv_aload_n hx hb dX11_car_36 rfl (lv_at hl 0 rfl) ?_
      refine va_get (D := D) (ci := 8) (v := .ref th2) (C := RX11) (T := TX11) (N := 17) hx hb hts hi_X11 hown hK hP 0 rfl rfl 1 (by decide) (hts (.fieldLink RX11 13 "FairWheelModel" "sits" "[I") (List.mem_of_getElem? (i := 1) rfl)) (fun _ h9 => h9) rfl dX11_car_37 ?_
      refine lv_iload_n hx hb dX11_car_40 rfl (lv_at hl 1 rfl) ?_
      by_cases c4 : p1 < 0 ∨ 8 ≤ p1.toNatClampNeg
      · have hf := (if_pos c4).symm.trans hf
        cases hf
      have hf := (if_neg c4).symm.trans hf
      refine va_iald hx hb hK hP 2 0 rfl rfl (show vp_in p1 8 from c4) dX11_car_41 ?_
      exact k_iret (v := ((M_sits u_th) p1.toNatClampNeg)) (u := ()) hx hb hr hlocks hK hS eQ hf hP hD dX11_car_42
    have hf := (if_neg c3).symm.trans hf
    by_cases c5 : p2 = 1
    · have hf := (if_pos c5).symm.trans hf
      refine lv_lookup hx hb dX11_car_10 (by decide) (off := 33) (tgt := 43) (by rw [c5]; rfl) (by decide) ?_
      refine lv_aload_n hx hb dX11_car_43 rfl (lv_at hl 0 rfl) ?_
      refine va_get (D := D) (ci := 8) (v := .ref th3) (C := RX11) (T := TX11) (N := 17) hx hb hts hi_X11 hown hK hP 0 rfl rfl 2 (by decide) (hts (.fieldLink RX11 16 "FairWheelModel" "stones" "[I") (List.mem_of_getElem? (i := 2) rfl)) (fun _ h9 => h9) rfl dX11_car_44 ?_
      refine lv_iload_n hx hb dX11_car_47 rfl (lv_at hl 1 rfl) ?_
      by_cases c6 : p1 < 0 ∨ 8 ≤ p1.toNatClampNeg
      · have hf := (if_pos c6).symm.trans hf
        cases hf
      have hf := (if_neg c6).symm.trans hf
      refine va_iald hx hb hK hP 3 0 rfl rfl (show vp_in p1 8 from c6) dX11_car_48 ?_
      exact k_iret (v := ((M_stones u_th) p1.toNatClampNeg)) (u := ()) hx hb hr hlocks hK hS eQ hf hP hD dX11_car_49
    have hf := (if_neg c5).symm.trans hf
    refine lv_lookup hx hb dX11_car_10 (by decide) (off := 40) (tgt := 50) ((lv_osw c3 rfl).trans ((lv_osw c5 rfl).trans rfl)) (by decide) ?_
    refine lv_iload_n hx hb dX11_car_50 rfl (lv_at hl 2 rfl) ?_
    refine lv_iconst (v := 2) hx hb dX11_car_51 (by decide) ?_
    refine lv_icmp_ne (tgt := 70) hx hb dX11_car_52 (by decide) (fun c7 => ?_) (fun c7 => ?_)
    · have hf := (if_neg c7).symm.trans hf
      refine lv_bipush (v := -2) hx hb dX11_car_70 (by decide) ?_
      exact k_iret (v := (-2 : Int32)) (u := ()) hx hb hr hlocks hK hS eQ hf hP hD dX11_car_72
    · have hf := (if_pos c7).symm.trans hf
      refine lv_iload_n hx hb dX11_car_55 rfl (lv_at hl 1 rfl) ?_
      refine lv_aload_n hx hb dX11_car_56 rfl (lv_at hl 0 rfl) ?_
      refine va_get (D := D) (ci := 8) (v := .int (M_at u_th)) (C := RX11) (T := TX11) (N := 17) hx hb hts hi_X11 hown hK hP 0 rfl rfl 3 (by decide) (hts (.fieldLink RX11 57 "FairWheelModel" "at" "I") (List.mem_of_getElem? (i := 3) rfl)) (fun _ h9 => h9) rfl dX11_car_57 ?_
      refine lv_isub hx hb dX11_car_60 ?_
      refine lv_bipush (v := 8) hx hb dX11_car_61 (by decide) ?_
      refine lv_iadd hx hb dX11_car_63 ?_
      refine lv_bipush (v := 8) hx hb dX11_car_64 (by decide) ?_
      refine lv_irem hx hb dX11_car_66 (by decide) ?_
      refine lv_goto (tgt := 72) hx hb dX11_car_67 (by decide) ?_
      exact k_iret (v := (((p1 - (M_at u_th)) + (8 : Int32)) - ((p1 - (M_at u_th)) + (8 : Int32)) / (8 : Int32) * (8 : Int32))) (u := ()) hx hb hr hlocks hK hS eQ hf hP hD dX11_car_72
  · have hf := (if_pos c2).symm.trans hf
    refine lv_iconst (v := -1) hx hb dX11_car_7 (by decide) ?_
    exact k_iret (v := (-1 : Int32)) (u := ()) hx hb hr hlocks hK hS eQ hf hP hD dX11_car_8
theorem hd_X11_pull : yX11_pull.cls ≠ "java/lang/invoke/MethodHandle" ∧ yX11_pull.cls ≠ "java/lang/invoke/VarHandle" ∧ (parseMethodDescriptor yX11_pull.desc).map (fun d => d.parameters.length) = some 0 := by decide +kernel
set_option maxHeartbeats 4000000 in
set_option maxRecDepth 100000 in
theorem c_X11_pull (l : Launch) (D : va_G) (cI cZ : ClassId) (th0 : Nat) (th1 : Nat) (th2 : Nat) (th3 : Nat) (th4 : Nat) (th5 : Nat) (th6 : Nat) (th7 : Nat) (th8 : Nat) (th9 : Nat) (sz : Nat) (u_th : sM) (z : Int32 × sM) (hf : f_X11_pull u_th = some z) : Met l yX11_pull wsX11_pull rmX11_pull (va_Pc [.ref th0] (wPr D cI cZ (ceM cI cZ th0 th1 th2 th3 th4 th5 th6 th7 th8 th9 u_th) sz)) (va_Qi (fun (r : Int32) (v : sM) => (r, v) = z) (fun (v : sM) t => wPo D cI cZ (va_A (ceM cI cZ th0 th1 th2 th3 th4 th5 th6 th7 th8 th9 u_th) sz) (ceM cI cZ th0 th1 th2 th3 th4 th5 th6 th7 th8 th9 v) t) (va_A (ceM cI cZ th0 th1 th2 th3 th4 th5 th6 th7 th8 th9 u_th) sz)) 0 0 (va_A (ceM cI cZ th0 th1 th2 th3 th4 th5 th6 th7 th8 th9 u_th) sz) := by
  refine k_enter (D := D) (cI := cI) (cZ := cZ) (wl := ceM cI cZ th0 th1 th2 th3 th4 th5 th6 th7 th8 th9 u_th) (sz := sz) (av := [.ref th0]) (cc := cX11_pull) (maxL := 1) (ret := (some .int)) (Qc := fun A => va_Qi (fun (r : Int32) (v : sM) => (r, v) = z) (fun (v : sM) t => wPo D cI cZ (A) (ceM cI cZ th0 th1 th2 th3 th4 th5 th6 th7 th8 th9 v) t) (A)) (by decide) rfl (Nat.le_of_ble_eq_true rfl) ?_
  intro p e s m below meth c ls A Q H locs eQ hx hb hr hml hts hown hlocks hK hP hD hS hA hE hl
  have hown : s.vm.findClass RX11 = some m.cls := hown
  have hl : lv_has ls 1 [(0, .ref th0)] := hl
  have hi_X11 : ∀ w ∈ wsX110, w ∈ wsX11_pull := fun w h => List.mem_cons_of_mem _ (List.mem_append_right _ h)
  rw [f_X11_pull] at hf
  refine lv_aload_n hx hb dX11_pull_0 rfl (lv_at hl 0 rfl) ?_
  obtain ⟨z1, hz_z1, hf⟩ := o_bind hf
  refine k_callv (va_runV (As := []) (rest := []) ⟨hx, hb, hml, hown, hts⟩ (c_X11_asNow l D cI cZ th0 th1 th2 th3 th4 th5 th6 th7 th8 th9 H.size u_th z1 hz_z1) (cwV 0 hts gX11_pull_X11_asNow rfl rfl rfl ⟨rfl, hd_X11_asNow⟩ ⟨Nat.le_of_ble_eq_true rfl, Nat.le_of_ble_eq_true rfl⟩) (k_preV hK hP hD hS hA hE [0, 1, 2, 3, 4, 5, 6, 7, 8, 9] (by decide) rfl (ci := 8) rfl rfl) rfl rfl hl.1 rfl (lv_room (Nat.le_of_ble_eq_true rfl)) dX11_pull_1 ⟨Nat.zero_le _, Nat.zero_le _⟩) hP hD hS hA [0, 1, 2, 3, 4, 5, 6, 7, 8, 9] [some 0, some 1, some 2, some 3, some 4, some 5, some 6, some 7, some 8, some 9] 10 rfl (by decide) (by decide) rfl rfl (fun H locs hP hD hS => ?_)
  have hP : va_P D vwCl (ceM cI cZ th0 th1 th2 th3 th4 th5 th6 th7 th8 th9 z1) H := hP
  have hD : va_D A (ceM cI cZ th0 th1 th2 th3 th4 th5 th6 th7 th8 th9 z1) := hD
  refine lv_aload_n hx hb dX11_pull_4 rfl (lv_at hl 0 rfl) ?_
  refine lv_aload_n hx hb dX11_pull_5 rfl (lv_at hl 0 rfl) ?_
  refine va_get (D := D) (ci := 8) (v := .int (M_foot z1)) (C := RX11) (T := TX11) (N := 17) hx hb hts hi_X11 hown hK hP 0 rfl rfl 9 (by decide) (hts (.fieldLink RX11 60 "FairWheelModel" "foot" "I") (List.mem_of_getElem? (i := 1) rfl)) (fun _ h9 => h9) rfl dX11_pull_6 ?_
  obtain ⟨z2, hz_z2, hf⟩ := o_bind hf
  refine k_calli (va_runV (As := [.int (M_foot z1)]) (rest := []) ⟨hx, hb, hml, hown, hts⟩ (c_X11_pullAt l D cI cZ th0 th1 th2 th3 th4 th5 th6 th7 th8 th9 H.size z1 (M_foot z1) z2 hz_z2) (cwV 1 hts gX11_pull_X11_pullAt rfl rfl rfl ⟨rfl, hd_X11_pullAt⟩ ⟨Nat.le_of_ble_eq_true rfl, Nat.le_of_ble_eq_true rfl⟩) (k_preV hK hP hD hS hA hE [0, 1, 2, 3, 4, 5, 6, 7, 8, 9] (by decide) rfl (ci := 8) rfl rfl) rfl rfl hl.1 rfl (lv_room (Nat.le_of_ble_eq_true rfl)) dX11_pull_9 ⟨Nat.zero_le _, Nat.zero_le _⟩) hP hD hS hA [0, 1, 2, 3, 4, 5, 6, 7, 8, 9] [some 0, some 1, some 2, some 3, some 4, some 5, some 6, some 7, some 8, some 9] 10 rfl (by decide) (by decide) rfl rfl (fun H locs hP hD hS => ?_)
  have hP : va_P D vwCl (ceM cI cZ th0 th1 th2 th3 th4 th5 th6 th7 th8 th9 z1) H := hP
  have hD : va_D A (ceM cI cZ th0 th1 th2 th3 th4 th5 th6 th7 th8 th9 z1) := hD
  refine lv_ldc hx hb hown (hts (.constant RX11 98 (1000000)) (List.mem_of_getElem? (i := 2) rfl)) dX11_pull_12 ?_
  refine lv_iadd hx hb dX11_pull_14 ?_
  exact k_iret (v := (z2.1 + (1000000 : Int32))) (u := z1) hx hb hr hlocks hK hS eQ hf hP hD dX11_pull_15
theorem hd_X11_behind : yX11_behind.cls ≠ "java/lang/invoke/MethodHandle" ∧ yX11_behind.cls ≠ "java/lang/invoke/VarHandle" ∧ (parseMethodDescriptor yX11_behind.desc).map (fun d => d.parameters.length) = some 1 := by decide +kernel
set_option maxHeartbeats 4000000 in
set_option maxRecDepth 100000 in
theorem c_X11_behind (l : Launch) (D : va_G) (cI cZ : ClassId) (th0 : Nat) (th1 : Nat) (th2 : Nat) (th3 : Nat) (th4 : Nat) (th5 : Nat) (th6 : Nat) (th7 : Nat) (th8 : Nat) (th9 : Nat) (sz : Nat) (u_th : sM) (p1 : Int32) (z : Int32 × sM) (hf : f_X11_behind u_th p1 = some z) : Met l yX11_behind wsX11_behind rmX11_behind (va_Pc [.ref th0, .int p1] (wPr D cI cZ (ceM cI cZ th0 th1 th2 th3 th4 th5 th6 th7 th8 th9 u_th) sz)) (va_Qi (fun (r : Int32) (v : sM) => (r, v) = z) (fun (v : sM) t => wPo D cI cZ (va_A (ceM cI cZ th0 th1 th2 th3 th4 th5 th6 th7 th8 th9 u_th) sz) (ceM cI cZ th0 th1 th2 th3 th4 th5 th6 th7 th8 th9 v) t) (va_A (ceM cI cZ th0 th1 th2 th3 th4 th5 th6 th7 th8 th9 u_th) sz)) 0 0 (va_A (ceM cI cZ th0 th1 th2 th3 th4 th5 th6 th7 th8 th9 u_th) sz) := by
  refine k_enter (D := D) (cI := cI) (cZ := cZ) (wl := ceM cI cZ th0 th1 th2 th3 th4 th5 th6 th7 th8 th9 u_th) (sz := sz) (av := [.ref th0, .int p1]) (cc := cX11_behind) (maxL := 3) (ret := (some .int)) (Qc := fun A => va_Qi (fun (r : Int32) (v : sM) => (r, v) = z) (fun (v : sM) t => wPo D cI cZ (A) (ceM cI cZ th0 th1 th2 th3 th4 th5 th6 th7 th8 th9 v) t) (A)) (by decide) rfl (Nat.le_of_ble_eq_true rfl) ?_
  intro p e s m below meth c ls A Q H locs eQ hx hb hr hml hts hown hlocks hK hP hD hS hA hE hl
  have hown : s.vm.findClass RX11 = some m.cls := hown
  have hl : lv_has ls 3 [(0, .ref th0), (1, .int p1)] := hl
  have hi_X11 : ∀ w ∈ wsX110, w ∈ wsX11_behind := fun w h => List.mem_cons_of_mem _ (List.mem_append_right _ h)
  rw [f_X11_behind] at hf
  refine lv_iload_n hx hb dX11_behind_0 rfl (lv_at hl 1 rfl) ?_
  refine lv_iconst (v := 0) hx hb dX11_behind_1 (by decide) ?_
  refine lv_iconst (v := 2) hx hb dX11_behind_2 (by decide) ?_
  obtain ⟨z1, hz_z1, hf⟩ := o_bind hf
  refine k_calli (va_runS (As := [.int p1, .int (0 : Int32), .int (2 : Int32)]) (rest := []) ⟨hx, hb, hml, hown, hts⟩ (c_X11_in l D cI cZ  H.size p1 (0 : Int32) (2 : Int32) z1 hz_z1) (va_cwS 3 hts gX11_behind_X11_in rfl rfl rfl hd_X11_in ⟨Nat.le_of_ble_eq_true rfl, Nat.le_of_ble_eq_true rfl⟩) (k_preS hK hP hD hS hA hE [] (by decide) rfl) rfl rfl hl.1 rfl (lv_room (Nat.le_of_ble_eq_true rfl)) dX11_behind_3 ⟨Nat.zero_le _, Nat.zero_le _⟩) hP hD hS hA [] [none, none, none, none, none, none, none, none, none, none] 0 rfl (by decide) (by decide) rfl rfl (fun H locs hP hD hS => ?_)
  have hP : va_P D vwCl (ceM cI cZ th0 th1 th2 th3 th4 th5 th6 th7 th8 th9 u_th) H := hP
  have hD : va_D A (ceM cI cZ th0 th1 th2 th3 th4 th5 th6 th7 th8 th9 u_th) := hD
  refine lv_if_ne (tgt := 12) hx hb dX11_behind_6 (by decide) (fun c2 => ?_) (fun c2 => ?_)
  · have hf := (if_neg c2).symm.trans hf
    refine lv_aload_n hx hb dX11_behind_12 rfl (lv_at hl 0 rfl) ?_
    obtain ⟨z3, hz_z3, hf⟩ := o_bind hf
    refine k_calli (va_runV (As := []) (rest := []) ⟨hx, hb, hml, hown, hts⟩ (c_X11_barOfText l D cI cZ th0 th1 th2 th3 th4 th5 th6 th7 th8 th9 H.size u_th z3 hz_z3) (cwV 0 hts gX11_behind_X11_barOfText rfl rfl rfl ⟨rfl, hd_X11_barOfText⟩ ⟨Nat.le_of_ble_eq_true rfl, Nat.le_of_ble_eq_true rfl⟩) (k_preV hK hP hD hS hA hE [0, 1, 2, 3, 4, 5, 6, 7, 8, 9] (by decide) rfl (ci := 8) rfl rfl) rfl rfl hl.1 rfl (lv_room (Nat.le_of_ble_eq_true rfl)) dX11_behind_13 ⟨Nat.zero_le _, Nat.zero_le _⟩) hP hD hS hA [0, 1, 2, 3, 4, 5, 6, 7, 8, 9] [some 0, some 1, some 2, some 3, some 4, some 5, some 6, some 7, some 8, some 9] 10 rfl (by decide) (by decide) rfl rfl (fun H locs hP hD hS => ?_)
    have hP : va_P D vwCl (ceM cI cZ th0 th1 th2 th3 th4 th5 th6 th7 th8 th9 z3.2) H := hP
    have hD : va_D A (ceM cI cZ th0 th1 th2 th3 th4 th5 th6 th7 th8 th9 z3.2) := hD
    refine lv_istore_n (lv' := [(2, .int z3.1), (0, .ref th0), (1, .int p1)]) hx hb dX11_behind_16 rfl hl (by decide) rfl (fun ls hl => ?_)
    refine lv_iload_n hx hb dX11_behind_17 rfl (lv_at hl 0 rfl) ?_
    refine lv_if_ge (tgt := 25) hx hb dX11_behind_18 (by decide) (fun c4 => ?_) (fun c4 => ?_)
    · have hf := (if_pos c4).symm.trans hf
      refine lv_iload_n hx hb dX11_behind_25 rfl (lv_at hl 2 rfl) ?_
      refine lv_if_ne (tgt := 36) hx hb dX11_behind_26 (by decide) (fun c5 => ?_) (fun c5 => ?_)
      · have hf := (if_neg c5).symm.trans hf
        refine lv_iload_n hx hb dX11_behind_36 rfl (lv_at hl 2 rfl) ?_
        refine lv_iconst (v := 1) hx hb dX11_behind_37 (by decide) ?_
        refine lv_icmp_ne (tgt := 55) hx hb dX11_behind_38 (by decide) (fun c6 => ?_) (fun c6 => ?_)
        · have hf := (if_neg c6).symm.trans hf
          refine lv_aload_n hx hb dX11_behind_55 rfl (lv_at hl 1 rfl) ?_
          refine va_get (D := D) (ci := 8) (v := .int (M_turned z3.2)) (C := RX11) (T := TX11) (N := 17) hx hb hts hi_X11 hown hK hP 0 rfl rfl 10 (by decide) (hts (.fieldLink RX11 63 "FairWheelModel" "turned" "I") (List.mem_of_getElem? (i := 3) rfl)) (fun _ h9 => h9) rfl dX11_behind_56 ?_
          refine lv_sipush (v := 1000) hx hb dX11_behind_59 (by decide) ?_
          refine lv_iadd hx hb dX11_behind_62 ?_
          exact k_iret (v := ((M_turned z3.2) + (1000 : Int32))) (u := z3.2) hx hb hr hlocks hK hS eQ hf hP hD dX11_behind_63
        · have hf := (if_pos c6).symm.trans hf
          refine lv_aload_n hx hb dX11_behind_41 rfl (lv_at hl 1 rfl) ?_
          refine lv_aload_n hx hb dX11_behind_42 rfl (lv_at hl 1 rfl) ?_
          refine va_get (D := D) (ci := 8) (v := .int (M_foot z3.2)) (C := RX11) (T := TX11) (N := 17) hx hb hts hi_X11 hown hK hP 0 rfl rfl 9 (by decide) (hts (.fieldLink RX11 60 "FairWheelModel" "foot" "I") (List.mem_of_getElem? (i := 1) rfl)) (fun _ h9 => h9) rfl dX11_behind_43 ?_
          obtain ⟨z7, hz_z7, hf⟩ := o_bind hf
          refine k_calli (va_runV (As := [.int (M_foot z3.2)]) (rest := []) ⟨hx, hb, hml, hown, hts⟩ (c_X11_pullAt l D cI cZ th0 th1 th2 th3 th4 th5 th6 th7 th8 th9 H.size z3.2 (M_foot z3.2) z7 hz_z7) (cwV 1 hts gX11_behind_X11_pullAt rfl rfl rfl ⟨rfl, hd_X11_pullAt⟩ ⟨Nat.le_of_ble_eq_true rfl, Nat.le_of_ble_eq_true rfl⟩) (k_preV hK hP hD hS hA hE [0, 1, 2, 3, 4, 5, 6, 7, 8, 9] (by decide) rfl (ci := 8) rfl rfl) rfl rfl hl.1 rfl (lv_room (Nat.le_of_ble_eq_true rfl)) dX11_behind_46 ⟨Nat.zero_le _, Nat.zero_le _⟩) hP hD hS hA [0, 1, 2, 3, 4, 5, 6, 7, 8, 9] [some 0, some 1, some 2, some 3, some 4, some 5, some 6, some 7, some 8, some 9] 10 rfl (by decide) (by decide) rfl rfl (fun H locs hP hD hS => ?_)
          have hP : va_P D vwCl (ceM cI cZ th0 th1 th2 th3 th4 th5 th6 th7 th8 th9 z3.2) H := hP
          have hD : va_D A (ceM cI cZ th0 th1 th2 th3 th4 th5 th6 th7 th8 th9 z3.2) := hD
          refine lv_ldc hx hb hown (hts (.constant RX11 98 (1000000)) (List.mem_of_getElem? (i := 2) rfl)) dX11_behind_49 ?_
          refine lv_iadd hx hb dX11_behind_51 ?_
          refine lv_goto (tgt := 63) hx hb dX11_behind_52 (by decide) ?_
          exact k_iret (v := (z7.1 + (1000000 : Int32))) (u := z3.2) hx hb hr hlocks hK hS eQ hf hP hD dX11_behind_63
      · have hf := (if_pos c5).symm.trans hf
        refine lv_aload_n hx hb dX11_behind_29 rfl (lv_at hl 1 rfl) ?_
        refine va_get (D := D) (ci := 8) (v := .int (M_foot z3.2)) (C := RX11) (T := TX11) (N := 17) hx hb hts hi_X11 hown hK hP 0 rfl rfl 9 (by decide) (hts (.fieldLink RX11 60 "FairWheelModel" "foot" "I") (List.mem_of_getElem? (i := 1) rfl)) (fun _ h9 => h9) rfl dX11_behind_30 ?_
        refine lv_goto (tgt := 63) hx hb dX11_behind_33 (by decide) ?_
        exact k_iret (v := (M_foot z3.2)) (u := z3.2) hx hb hr hlocks hK hS eQ hf hP hD dX11_behind_63
    · have hf := (if_neg c4).symm.trans hf
      refine lv_iload_n hx hb dX11_behind_21 rfl (lv_at hl 0 rfl) ?_
      refine lv_goto (tgt := 63) hx hb dX11_behind_22 (by decide) ?_
      exact k_iret (v := z3.1) (u := z3.2) hx hb hr hlocks hK hS eQ hf hP hD dX11_behind_63
  · have hf := (if_pos c2).symm.trans hf
    refine lv_bipush (v := -2) hx hb dX11_behind_9 (by decide) ?_
    exact k_iret (v := (-2 : Int32)) (u := u_th) hx hb hr hlocks hK hS eQ hf hP hD dX11_behind_11
theorem hd_X11_leftOut : yX11_leftOut.cls ≠ "java/lang/invoke/MethodHandle" ∧ yX11_leftOut.cls ≠ "java/lang/invoke/VarHandle" ∧ (parseMethodDescriptor yX11_leftOut.desc).map (fun d => d.parameters.length) = some 1 := by decide +kernel
set_option maxHeartbeats 4000000 in
set_option maxRecDepth 100000 in
theorem c_X11_leftOut (l : Launch) (D : va_G) (cI cZ : ClassId) (th0 : Nat) (th1 : Nat) (th2 : Nat) (th3 : Nat) (th4 : Nat) (th5 : Nat) (th6 : Nat) (th7 : Nat) (th8 : Nat) (th9 : Nat) (sz : Nat) (u_th : sM) (p1 : Int32) (z : Int32 × sM) (hf : f_X11_leftOut u_th p1 = some z) : Met l yX11_leftOut wsX11_leftOut rmX11_leftOut (va_Pc [.ref th0, .int p1] (wPr D cI cZ (ceM cI cZ th0 th1 th2 th3 th4 th5 th6 th7 th8 th9 u_th) sz)) (va_Qi (fun (r : Int32) (v : sM) => (r, v) = z) (fun (v : sM) t => wPo D cI cZ (va_A (ceM cI cZ th0 th1 th2 th3 th4 th5 th6 th7 th8 th9 u_th) sz) (ceM cI cZ th0 th1 th2 th3 th4 th5 th6 th7 th8 th9 v) t) (va_A (ceM cI cZ th0 th1 th2 th3 th4 th5 th6 th7 th8 th9 u_th) sz)) 0 0 (va_A (ceM cI cZ th0 th1 th2 th3 th4 th5 th6 th7 th8 th9 u_th) sz) := by
  refine k_enter (D := D) (cI := cI) (cZ := cZ) (wl := ceM cI cZ th0 th1 th2 th3 th4 th5 th6 th7 th8 th9 u_th) (sz := sz) (av := [.ref th0, .int p1]) (cc := cX11_leftOut) (maxL := 7) (ret := (some .int)) (Qc := fun A => va_Qi (fun (r : Int32) (v : sM) => (r, v) = z) (fun (v : sM) t => wPo D cI cZ (A) (ceM cI cZ th0 th1 th2 th3 th4 th5 th6 th7 th8 th9 v) t) (A)) (by decide) rfl (Nat.le_of_ble_eq_true rfl) ?_
  intro p e s m below meth c ls A Q H locs eQ hx hb hr hml hts hown hlocks hK hP hD hS hA hE hl
  have hown : s.vm.findClass RX11 = some m.cls := hown
  have hl : lv_has ls 7 [(0, .ref th0), (1, .int p1)] := hl
  have hi_X11 : ∀ w ∈ wsX110, w ∈ wsX11_leftOut := fun w h => List.mem_cons_of_mem _ (List.mem_append_right _ h)
  have hJ72 : ∀ (K_22 : Int32 → Int32 → Int32 → Int32 → sM → Option (Int32 × sM)), (∀ (v1 : Int32) (v3 : Int32) (v4 : Int32) (v5 : Int32) (u_th : sM) (H : Heap) (locs : List Loc) (ls : Array Slot), lv_has ls 7 [(0, .ref th0), (1, .int v1), (3, .int v3), (4, .int v4), (5, .int v5)] → va_P D vwCl (ceM cI cZ th0 th1 th2 th3 th4 th5 th6 th7 th8 th9 u_th) H → va_D A (ceM cI cZ th0 th1 th2 th3 th4 th5 th6 th7 th8 th9 u_th) → va_S A s.heap H locs → K_22 v1 v3 v4 v5 u_th = some z → W p l e (headSpec wsX11_leftOut rmX11_leftOut).room s m ([.ref th0, .int p1] : List Value).toArray below meth c H locs 0 0 Q (F0 m 22 ls [])) → ∀ (v1 : Int32) (v3 : Int32) (v4 : Int32) (v5 : Int32) (s0 : Int32) (u_th : sM) (H : Heap) (locs : List Loc) (ls : Array Slot), lv_has ls 7 [(0, .ref th0), (1, .int v1), (3, .int v3), (4, .int v4), (5, .int v5)] → va_P D vwCl (ceM cI cZ th0 th1 th2 th3 th4 th5 th6 th7 th8 th9 u_th) H → va_D A (ceM cI cZ th0 th1 th2 th3 th4 th5 th6 th7 th8 th9 u_th) → va_S A s.heap H locs → f_X11_leftOut_J72 K_22 v1 v3 v4 v5 s0 u_th = some z → W p l e (headSpec wsX11_leftOut rmX11_leftOut).room s m ([.ref th0, .int p1] : List Value).toArray below meth c H locs 0 0 Q (F0 m 72 ls [.int s0]) := by
    intro K_22 hK_22 v1 v3 v4 v5 s0 u_th H locs ls hl hP hD hS hf
    rw [f_X11_leftOut_J72] at hf
    refine lv_istore (lv' := [(6, .int s0), (0, .ref th0), (1, .int v1), (3, .int v3), (4, .int v4), (5, .int v5)]) hx hb dX11_leftOut_72 hl (by decide) rfl (fun ls hl => ?_)
    refine lv_iload hx hb dX11_leftOut_74 (lv_at hl 0 rfl) ?_
    refine lv_if_ne (tgt := 109) hx hb dX11_leftOut_76 (by decide) (fun c7 => ?_) (fun c7 => ?_)
    · have hf := (if_neg c7).symm.trans hf
      refine lv_iinc (v := (v5 + (1 : Int32))) (lv' := [(5, .int (v5 + (1 : Int32))), (6, .int s0), (0, .ref th0), (1, .int v1), (3, .int v3), (4, .int v4)]) hx hb dX11_leftOut_109 hl (k := 5) rfl rfl (by decide) rfl (fun ls hl => ?_)
      refine lv_goto (tgt := 22) hx hb dX11_leftOut_112 (by decide) ?_
      exact hK_22 v1 v3 v4 (v5 + (1 : Int32)) u_th _ _ ls (lv_sub hl [2, 3, 4, 5, 0] rfl) hP hD hS hf
    · have hf := (if_pos c7).symm.trans hf
      refine lv_aload_n hx hb dX11_leftOut_79 rfl (lv_at hl 1 rfl) ?_
      refine lv_iconst (v := 0) hx hb dX11_leftOut_80 (by decide) ?_
      refine lv_iload hx hb dX11_leftOut_81 (lv_at hl 5 rfl) ?_
      obtain ⟨z8, hz_z8, hf⟩ := o_bind hf
      refine k_calli (va_runV (As := [.int (0 : Int32), .int v5]) (rest := []) ⟨hx, hb, hml, hown, hts⟩ (c_X11_goText l D cI cZ th0 th1 th2 th3 th4 th5 th6 th7 th8 th9 H.size u_th (0 : Int32) v5 z8 hz_z8) (cwV 2 hts gX11_leftOut_X11_goText rfl rfl rfl ⟨rfl, hd_X11_goText⟩ ⟨Nat.le_of_ble_eq_true rfl, Nat.le_of_ble_eq_true rfl⟩) (k_preV hK hP hD hS hA hE [0, 1, 2, 3, 4, 5, 6, 7, 8, 9] (by decide) rfl (ci := 8) rfl rfl) rfl rfl hl.1 rfl (lv_room (Nat.le_of_ble_eq_true rfl)) dX11_leftOut_83 ⟨Nat.zero_le _, Nat.zero_le _⟩) hP hD hS hA [0, 1, 2, 3, 4, 5, 6, 7, 8, 9] [some 0, some 1, some 2, some 3, some 4, some 5, some 6, some 7, some 8, some 9] 10 rfl (by decide) (by decide) rfl rfl (fun H locs hP hD hS => ?_)
      have hP : va_P D vwCl (ceM cI cZ th0 th1 th2 th3 th4 th5 th6 th7 th8 th9 z8.2) H := hP
      have hD : va_D A (ceM cI cZ th0 th1 th2 th3 th4 th5 th6 th7 th8 th9 z8.2) := hD
      refine lv_if_ge (tgt := 109) hx hb dX11_leftOut_86 (by decide) (fun c9 => ?_) (fun c9 => ?_)
      · have hf := (if_pos c9).symm.trans hf
        refine lv_iinc (v := (v5 + (1 : Int32))) (lv' := [(5, .int (v5 + (1 : Int32))), (6, .int s0), (0, .ref th0), (1, .int v1), (3, .int v3), (4, .int v4)]) hx hb dX11_leftOut_109 hl (k := 5) rfl rfl (by decide) rfl (fun ls hl => ?_)
        refine lv_goto (tgt := 22) hx hb dX11_leftOut_112 (by decide) ?_
        exact hK_22 v1 v3 v4 (v5 + (1 : Int32)) z8.2 _ _ ls (lv_sub hl [2, 3, 4, 5, 0] rfl) hP hD hS hf
      · have hf := (if_neg c9).symm.trans hf
        refine lv_aload_n hx hb dX11_leftOut_89 rfl (lv_at hl 1 rfl) ?_
        refine va_get (D := D) (ci := 8) (v := .int (M_foot z8.2)) (C := RX11) (T := TX11) (N := 17) hx hb hts hi_X11 hown hK hP 0 rfl rfl 9 (by decide) (hts (.fieldLink RX11 60 "FairWheelModel" "foot" "I") (List.mem_of_getElem? (i := 1) rfl)) (fun _ h9 => h9) rfl dX11_leftOut_90 ?_
        refine lv_iload_n hx hb dX11_leftOut_93 rfl (lv_at hl 3 rfl) ?_
        refine lv_icmp_ne (tgt := 109) hx hb dX11_leftOut_94 (by decide) (fun c10 => ?_) (fun c10 => ?_)
        · have hf := (if_neg c10).symm.trans hf
          refine lv_iinc (v := (v5 + (1 : Int32))) (lv' := [(5, .int (v5 + (1 : Int32))), (6, .int s0), (0, .ref th0), (1, .int v1), (3, .int v3), (4, .int v4)]) hx hb dX11_leftOut_109 hl (k := 5) rfl rfl (by decide) rfl (fun ls hl => ?_)
          refine lv_goto (tgt := 22) hx hb dX11_leftOut_112 (by decide) ?_
          exact hK_22 v1 v3 v4 (v5 + (1 : Int32)) z8.2 _ _ ls (lv_sub hl [2, 3, 4, 5, 0] rfl) hP hD hS hf
        · have hf := (if_pos c10).symm.trans hf
          refine lv_iload hx hb dX11_leftOut_97 (lv_at hl 4 rfl) ?_
          refine lv_iload_n hx hb dX11_leftOut_99 rfl (lv_at hl 2 rfl) ?_
          refine lv_icmp_ne (tgt := 106) hx hb dX11_leftOut_100 (by decide) (fun c11 => ?_) (fun c11 => ?_)
          · have hf := (if_neg c11).symm.trans hf
            refine lv_iinc (v := (v4 + (1 : Int32))) (lv' := [(4, .int (v4 + (1 : Int32))), (6, .int s0), (0, .ref th0), (1, .int v1), (3, .int v3), (5, .int v5)]) hx hb dX11_leftOut_106 hl (k := 4) rfl rfl (by decide) rfl (fun ls hl => ?_)
            refine lv_iinc (v := (v5 + (1 : Int32))) (lv' := [(5, .int (v5 + (1 : Int32))), (4, .int (v4 + (1 : Int32))), (6, .int s0), (0, .ref th0), (1, .int v1), (3, .int v3)]) hx hb dX11_leftOut_109 hl (k := 5) rfl rfl (by decide) rfl (fun ls hl => ?_)
            refine lv_goto (tgt := 22) hx hb dX11_leftOut_112 (by decide) ?_
            exact hK_22 v1 v3 (v4 + (1 : Int32)) (v5 + (1 : Int32)) z8.2 _ _ ls (lv_sub hl [3, 4, 5, 1, 0] rfl) hP hD hS hf
          · have hf := (if_pos c11).symm.trans hf
            refine lv_iload hx hb dX11_leftOut_103 (lv_at hl 5 rfl) ?_
            exact k_iret (v := v5) (u := z8.2) hx hb hr hlocks hK hS eQ hf hP hD dX11_leftOut_105
  have hL22 : ∀ (n : Nat), ∀ (v1 : Int32) (v3 : Int32) (v4 : Int32) (v5 : Int32) (u_th : sM) (H : Heap) (locs : List Loc) (ls : Array Slot), lv_has ls 7 [(0, .ref th0), (1, .int v1), (3, .int v3), (4, .int v4), (5, .int v5)] → va_P D vwCl (ceM cI cZ th0 th1 th2 th3 th4 th5 th6 th7 th8 th9 u_th) H → va_D A (ceM cI cZ th0 th1 th2 th3 th4 th5 th6 th7 th8 th9 u_th) → va_S A s.heap H locs → f_X11_leftOut_L22 n v1 v3 v4 v5 u_th = some z → W p l e (headSpec wsX11_leftOut rmX11_leftOut).room s m ([.ref th0, .int p1] : List Value).toArray below meth c H locs 0 0 Q (F0 m 22 ls []) := by
    intro n
    induction n with
    | zero =>
      intro v1 v3 v4 v5 u_th H locs ls hl hP hD hS hf
      exact absurd (show (none : Option (Int32 × sM)) = some z from hf) (fun h => by cases h)
    | succ n ih =>
      intro v1 v3 v4 v5 u_th H locs ls hl hP hD hS hf
      rw [f_X11_leftOut_L22] at hf
      refine lv_iload hx hb dX11_leftOut_22 (lv_at hl 4 rfl) ?_
      refine lv_aload_n hx hb dX11_leftOut_24 rfl (lv_at hl 0 rfl) ?_
      refine va_get (D := D) (ci := 8) (v := .int (M_signs u_th)) (C := RX11) (T := TX11) (N := 17) hx hb hts hi_X11 hown hK hP 0 rfl rfl 7 (by decide) (hts (.fieldLink RX11 50 "FairWheelModel" "signs" "I") (List.mem_of_getElem? (i := 2) rfl)) (fun _ h9 => h9) rfl dX11_leftOut_25 ?_
      refine lv_icmp_ge (tgt := 115) hx hb dX11_leftOut_28 (by decide) (fun c3 => ?_) (fun c3 => ?_)
      · have hf := (if_pos c3).symm.trans hf
        refine lv_iload_n hx hb dX11_leftOut_115 rfl (lv_at hl 1 rfl) ?_
        refine lv_iconst (v := -1) hx hb dX11_leftOut_116 (by decide) ?_
        refine lv_icmp_ne (tgt := 125) hx hb dX11_leftOut_117 (by decide) (fun c4 => ?_) (fun c4 => ?_)
        · have hf := (if_neg c4).symm.trans hf
          refine lv_bipush (v := -6) hx hb dX11_leftOut_125 (by decide) ?_
          exact k_iret (v := (-6 : Int32)) (u := u_th) hx hb hr hlocks hK hS eQ hf hP hD dX11_leftOut_127
        · have hf := (if_pos c4).symm.trans hf
          refine lv_iload hx hb dX11_leftOut_120 (lv_at hl 3 rfl) ?_
          refine lv_goto (tgt := 127) hx hb dX11_leftOut_122 (by decide) ?_
          exact k_iret (v := v4) (u := u_th) hx hb hr hlocks hK hS eQ hf hP hD dX11_leftOut_127
      · have hf := (if_neg c3).symm.trans hf
        refine lv_aload_n hx hb dX11_leftOut_31 rfl (lv_at hl 0 rfl) ?_
        refine va_get (D := D) (ci := 8) (v := .ref th5) (C := RX11) (T := TX11) (N := 17) hx hb hts hi_X11 hown hK hP 0 rfl rfl 8 (by decide) (hts (.fieldLink RX11 26 "FairWheelModel" "pad" "[I") (List.mem_of_getElem? (i := 3) rfl)) (fun _ h9 => h9) rfl dX11_leftOut_32 ?_
        refine lv_iload hx hb dX11_leftOut_35 (lv_at hl 4 rfl) ?_
        by_cases c5 : v5 < 0 ∨ 60 ≤ v5.toNatClampNeg
        · have hf := (if_pos c5).symm.trans hf
          cases hf
        have hf := (if_neg c5).symm.trans hf
        refine va_iald hx hb hK hP 5 0 rfl rfl (show vp_in v5 60 from c5) dX11_leftOut_37 ?_
        refine lv_bipush (v := 94) hx hb dX11_leftOut_38 (by decide) ?_
        refine lv_icmp_eq (tgt := 67) hx hb dX11_leftOut_40 (by decide) (fun c6 => ?_) (fun c6 => ?_)
        · have hf := (if_pos c6).symm.trans hf
          refine lv_iconst (v := 1) hx hb dX11_leftOut_67 (by decide) ?_
          refine lv_goto (tgt := 72) hx hb dX11_leftOut_68 (by decide) ?_
          exact hJ72 (f_X11_leftOut_L22 n) ih v1 v3 v4 v5 (1 : Int32) u_th _ _ ls (lv_sub hl [0, 1, 2, 3, 4] rfl) hP hD hS hf
        · have hf := (if_neg c6).symm.trans hf
          refine lv_aload_n hx hb dX11_leftOut_43 rfl (lv_at hl 0 rfl) ?_
          refine va_get (D := D) (ci := 8) (v := .ref th5) (C := RX11) (T := TX11) (N := 17) hx hb hts hi_X11 hown hK hP 0 rfl rfl 8 (by decide) (hts (.fieldLink RX11 26 "FairWheelModel" "pad" "[I") (List.mem_of_getElem? (i := 3) rfl)) (fun _ h9 => h9) rfl dX11_leftOut_44 ?_
          refine lv_iload hx hb dX11_leftOut_47 (lv_at hl 4 rfl) ?_
          by_cases c12 : v5 < 0 ∨ 60 ≤ v5.toNatClampNeg
          · have hf := (if_pos c12).symm.trans hf
            cases hf
          have hf := (if_neg c12).symm.trans hf
          refine va_iald hx hb hK hP 5 0 rfl rfl (show vp_in v5 60 from c12) dX11_leftOut_49 ?_
          refine lv_bipush (v := 60) hx hb dX11_leftOut_50 (by decide) ?_
          refine lv_icmp_eq (tgt := 67) hx hb dX11_leftOut_52 (by decide) (fun c13 => ?_) (fun c13 => ?_)
          · have hf := (if_pos c13).symm.trans hf
            refine lv_iconst (v := 1) hx hb dX11_leftOut_67 (by decide) ?_
            refine lv_goto (tgt := 72) hx hb dX11_leftOut_68 (by decide) ?_
            exact hJ72 (f_X11_leftOut_L22 n) ih v1 v3 v4 v5 (1 : Int32) u_th _ _ ls (lv_sub hl [0, 1, 2, 3, 4] rfl) hP hD hS hf
          · have hf := (if_neg c13).symm.trans hf
            refine lv_aload_n hx hb dX11_leftOut_55 rfl (lv_at hl 0 rfl) ?_
            refine va_get (D := D) (ci := 8) (v := .ref th5) (C := RX11) (T := TX11) (N := 17) hx hb hts hi_X11 hown hK hP 0 rfl rfl 8 (by decide) (hts (.fieldLink RX11 26 "FairWheelModel" "pad" "[I") (List.mem_of_getElem? (i := 3) rfl)) (fun _ h9 => h9) rfl dX11_leftOut_56 ?_
            refine lv_iload hx hb dX11_leftOut_59 (lv_at hl 4 rfl) ?_
            by_cases c14 : v5 < 0 ∨ 60 ≤ v5.toNatClampNeg
            · have hf := (if_pos c14).symm.trans hf
              cases hf
            have hf := (if_neg c14).symm.trans hf
            refine va_iald hx hb hK hP 5 0 rfl rfl (show vp_in v5 60 from c14) dX11_leftOut_61 ?_
            refine lv_bipush (v := 62) hx hb dX11_leftOut_62 (by decide) ?_
            refine lv_icmp_ne (tgt := 71) hx hb dX11_leftOut_64 (by decide) (fun c15 => ?_) (fun c15 => ?_)
            · have hf := (if_neg c15).symm.trans hf
              refine lv_iconst (v := 0) hx hb dX11_leftOut_71 (by decide) ?_
              exact hJ72 (f_X11_leftOut_L22 n) ih v1 v3 v4 v5 (0 : Int32) u_th _ _ ls (lv_sub hl [0, 1, 2, 3, 4] rfl) hP hD hS hf
            · have hf := (if_pos c15).symm.trans hf
              refine lv_iconst (v := 1) hx hb dX11_leftOut_67 (by decide) ?_
              refine lv_goto (tgt := 72) hx hb dX11_leftOut_68 (by decide) ?_
              exact hJ72 (f_X11_leftOut_L22 n) ih v1 v3 v4 v5 (1 : Int32) u_th _ _ ls (lv_sub hl [0, 1, 2, 3, 4] rfl) hP hD hS hf
  rw [f_X11_leftOut] at hf
  refine lv_aload_n hx hb dX11_leftOut_0 rfl (lv_at hl 0 rfl) ?_
  obtain ⟨z1, hz_z1, hf⟩ := o_bind hf
  refine k_calli (va_runV (As := []) (rest := []) ⟨hx, hb, hml, hown, hts⟩ (c_X11_barOfText l D cI cZ th0 th1 th2 th3 th4 th5 th6 th7 th8 th9 H.size u_th z1 hz_z1) (cwV 0 hts gX11_leftOut_X11_barOfText rfl rfl rfl ⟨rfl, hd_X11_barOfText⟩ ⟨Nat.le_of_ble_eq_true rfl, Nat.le_of_ble_eq_true rfl⟩) (k_preV hK hP hD hS hA hE [0, 1, 2, 3, 4, 5, 6, 7, 8, 9] (by decide) rfl (ci := 8) rfl rfl) rfl rfl hl.1 rfl (lv_room (Nat.le_of_ble_eq_true rfl)) dX11_leftOut_1 ⟨Nat.zero_le _, Nat.zero_le _⟩) hP hD hS hA [0, 1, 2, 3, 4, 5, 6, 7, 8, 9] [some 0, some 1, some 2, some 3, some 4, some 5, some 6, some 7, some 8, some 9] 10 rfl (by decide) (by decide) rfl rfl (fun H locs hP hD hS => ?_)
  have hP : va_P D vwCl (ceM cI cZ th0 th1 th2 th3 th4 th5 th6 th7 th8 th9 z1.2) H := hP
  have hD : va_D A (ceM cI cZ th0 th1 th2 th3 th4 th5 th6 th7 th8 th9 z1.2) := hD
  refine lv_istore_n (lv' := [(2, .int z1.1), (0, .ref th0), (1, .int p1)]) hx hb dX11_leftOut_4 rfl hl (by decide) rfl (fun ls hl => ?_)
  refine lv_iload_n hx hb dX11_leftOut_5 rfl (lv_at hl 0 rfl) ?_
  refine lv_if_ge (tgt := 11) hx hb dX11_leftOut_6 (by decide) (fun c2 => ?_) (fun c2 => ?_)
  · have hf := (if_pos c2).symm.trans hf
    refine lv_aload_n hx hb dX11_leftOut_11 rfl (lv_at hl 1 rfl) ?_
    refine va_get (D := D) (ci := 8) (v := .int (M_foot z1.2)) (C := RX11) (T := TX11) (N := 17) hx hb hts hi_X11 hown hK hP 0 rfl rfl 9 (by decide) (hts (.fieldLink RX11 60 "FairWheelModel" "foot" "I") (List.mem_of_getElem? (i := 1) rfl)) (fun _ h9 => h9) rfl dX11_leftOut_12 ?_
    refine lv_istore_n (lv' := [(3, .int (M_foot z1.2)), (2, .int z1.1), (0, .ref th0), (1, .int p1)]) hx hb dX11_leftOut_15 rfl hl (by decide) rfl (fun ls hl => ?_)
    refine lv_iconst (v := 0) hx hb dX11_leftOut_16 (by decide) ?_
    refine lv_istore (lv' := [(4, .int (0 : Int32)), (3, .int (M_foot z1.2)), (2, .int z1.1), (0, .ref th0), (1, .int p1)]) hx hb dX11_leftOut_17 hl (by decide) rfl (fun ls hl => ?_)
    refine lv_iconst (v := 0) hx hb dX11_leftOut_19 (by decide) ?_
    refine lv_istore (lv' := [(5, .int (0 : Int32)), (4, .int (0 : Int32)), (3, .int (M_foot z1.2)), (2, .int z1.1), (0, .ref th0), (1, .int p1)]) hx hb dX11_leftOut_20 hl (by decide) rfl (fun ls hl => ?_)
    exact hL22 oF p1 (M_foot z1.2) (0 : Int32) (0 : Int32) z1.2 _ _ ls (lv_sub hl [4, 5, 2, 1, 0] rfl) hP hD hS hf
  · have hf := (if_neg c2).symm.trans hf
    refine lv_iload_n hx hb dX11_leftOut_9 rfl (lv_at hl 0 rfl) ?_
    exact k_iret (v := z1.1) (u := z1.2) hx hb hr hlocks hK hS eQ hf hP hD dX11_leftOut_10
