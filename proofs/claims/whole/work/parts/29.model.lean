theorem hd_X11_offWheel : yX11_offWheel.cls ≠ "java/lang/invoke/MethodHandle" ∧ yX11_offWheel.cls ≠ "java/lang/invoke/VarHandle" ∧ (parseMethodDescriptor yX11_offWheel.desc).map (fun d => d.parameters.length) = some 1 := by decide +kernel
set_option maxHeartbeats 4000000 in
set_option maxRecDepth 100000 in
theorem c_X11_offWheel (l : Launch) (D : va_G) (cI cZ : ClassId) (th0 : Nat) (th1 : Nat) (th2 : Nat) (th3 : Nat) (th4 : Nat) (th5 : Nat) (th6 : Nat) (th7 : Nat) (th8 : Nat) (th9 : Nat) (sz : Nat) (u_th : sM) (p1 : Int32) (z : Int32 × Unit) (hf : f_X11_offWheel u_th p1 = some z) : Met l yX11_offWheel wsX11_offWheel rmX11_offWheel (va_Pc [.ref th0, .int p1] (wPr D cI cZ (ceM cI cZ th0 th1 th2 th3 th4 th5 th6 th7 th8 th9 u_th) sz)) (va_Qi (fun (r : Int32) (v : Unit) => (r, v) = z) (fun (v : Unit) t => wPo D cI cZ (va_A (ceM cI cZ th0 th1 th2 th3 th4 th5 th6 th7 th8 th9 u_th) sz) (ceM cI cZ th0 th1 th2 th3 th4 th5 th6 th7 th8 th9 u_th) t) (va_A (ceM cI cZ th0 th1 th2 th3 th4 th5 th6 th7 th8 th9 u_th) sz)) 0 0 (va_A (ceM cI cZ th0 th1 th2 th3 th4 th5 th6 th7 th8 th9 u_th) sz) := by
  refine k_enter (D := D) (cI := cI) (cZ := cZ) (wl := ceM cI cZ th0 th1 th2 th3 th4 th5 th6 th7 th8 th9 u_th) (sz := sz) (av := [.ref th0, .int p1]) (cc := cX11_offWheel) (maxL := 4) (ret := (some .int)) (Qc := fun A => va_Qi (fun (r : Int32) (v : Unit) => (r, v) = z) (fun (v : Unit) t => wPo D cI cZ (A) (ceM cI cZ th0 th1 th2 th3 th4 th5 th6 th7 th8 th9 u_th) t) (A)) (by decide) rfl (Nat.le_of_ble_eq_true rfl) ?_
  intro p e s m below meth c ls A Q H locs eQ hx hb hr hml hts hown hlocks hK hP hD hS hA hE hl
  have hown : s.vm.findClass RX11 = some m.cls := hown
  have hl : lv_has ls 4 [(0, .ref th0), (1, .int p1)] := hl
  have hL4 : ∀ (n : Nat), ∀ (v2 : Int32) (v3 : Int32) (H : Heap) (locs : List Loc) (ls : Array Slot), lv_has ls 4 [(0, .ref th0), (2, .int v2), (3, .int v3)] → va_P D vwCl (ceM cI cZ th0 th1 th2 th3 th4 th5 th6 th7 th8 th9 u_th) H → va_D A (ceM cI cZ th0 th1 th2 th3 th4 th5 th6 th7 th8 th9 u_th) → va_S A s.heap H locs → f_X11_offWheel_L4 u_th n v2 v3 = some z → W p l e (headSpec wsX11_offWheel rmX11_offWheel).room s m ([.ref th0, .int p1] : List Value).toArray below meth c H locs 0 0 Q (F0 m 4 ls []) := by
    intro n
    induction n with
    | zero =>
      intro v2 v3 H locs ls hl hP hD hS hf
      exact absurd (show (none : Option (Int32 × Unit)) = some z from hf) (fun h => by cases h)
    | succ n ih =>
      intro v2 v3 H locs ls hl hP hD hS hf
      rw [f_X11_offWheel_L4] at hf
      refine lv_iload_n hx hb dX11_offWheel_4 rfl (lv_at hl 2 rfl) ?_
      refine lv_bipush (v := 8) hx hb dX11_offWheel_5 (by decide) ?_
      refine lv_icmp_ge (tgt := 33) hx hb dX11_offWheel_7 (by decide) (fun c1 => ?_) (fun c1 => ?_)
      · have hf := (if_pos c1).symm.trans hf
        refine lv_bipush (v := -6) hx hb dX11_offWheel_33 (by decide) ?_
        exact k_iret (v := (-6 : Int32)) (u := ()) hx hb hr hlocks hK hS eQ hf hP hD dX11_offWheel_35
      · have hf := (if_neg c1).symm.trans hf
        refine lv_aload_n hx hb dX11_offWheel_10 rfl (lv_at hl 0 rfl) ?_
        refine lv_iload_n hx hb dX11_offWheel_11 rfl (lv_at hl 2 rfl) ?_
        obtain ⟨z2, hz_z2, hf⟩ := o_bind hf
        refine k_calli (va_runV (As := [.int v3]) (rest := []) ⟨hx, hb, hml, hown, hts⟩ (c_X11_carOf l D cI cZ th0 th1 th2 th3 th4 th5 th6 th7 th8 th9 H.size u_th v3 z2 hz_z2) (cwV 1 hts gX11_offWheel_X11_carOf rfl rfl rfl ⟨rfl, hd_X11_carOf⟩ ⟨Nat.le_of_ble_eq_true rfl, Nat.le_of_ble_eq_true rfl⟩) (k_preV hK hP hD hS hA hE [0, 1, 2, 3, 4, 5, 6, 7, 8, 9] (by decide) rfl (ci := 8) rfl rfl) rfl rfl hl.1 rfl (lv_room (Nat.le_of_ble_eq_true rfl)) dX11_offWheel_12 ⟨Nat.zero_le _, Nat.zero_le _⟩) hP hD hS hA [0, 1, 2, 3, 4, 5, 6, 7, 8, 9] [some 0, some 1, some 2, some 3, some 4, some 5, some 6, some 7, some 8, some 9] 10 rfl (by decide) (by decide) rfl rfl (fun H locs hP hD hS => ?_)
        have hP : va_P D vwCl (ceM cI cZ th0 th1 th2 th3 th4 th5 th6 th7 th8 th9 u_th) H := hP
        have hD : va_D A (ceM cI cZ th0 th1 th2 th3 th4 th5 th6 th7 th8 th9 u_th) := hD
        refine lv_if_ge (tgt := 27) hx hb dX11_offWheel_15 (by decide) (fun c3 => ?_) (fun c3 => ?_)
        · have hf := (if_pos c3).symm.trans hf
          refine lv_iinc (v := (v3 + (1 : Int32))) (lv' := [(3, .int (v3 + (1 : Int32))), (0, .ref th0), (2, .int v2)]) hx hb dX11_offWheel_27 hl (k := 2) rfl rfl (by decide) rfl (fun ls hl => ?_)
          refine lv_goto (tgt := 4) hx hb dX11_offWheel_30 (by decide) ?_
          exact ih v2 (v3 + (1 : Int32)) _ _ ls (lv_sub hl [1, 2, 0] rfl) hP hD hS hf
        · have hf := (if_neg c3).symm.trans hf
          refine lv_iload_n hx hb dX11_offWheel_18 rfl (lv_at hl 1 rfl) ?_
          refine lv_if_ne (tgt := 24) hx hb dX11_offWheel_19 (by decide) (fun c4 => ?_) (fun c4 => ?_)
          · have hf := (if_neg c4).symm.trans hf
            refine lv_iinc (v := (v2 + (-1 : Int32))) (lv' := [(2, .int (v2 + (-1 : Int32))), (0, .ref th0), (3, .int v3)]) hx hb dX11_offWheel_24 hl (k := 1) rfl rfl (by decide) rfl (fun ls hl => ?_)
            refine lv_iinc (v := (v3 + (1 : Int32))) (lv' := [(3, .int (v3 + (1 : Int32))), (2, .int (v2 + (-1 : Int32))), (0, .ref th0)]) hx hb dX11_offWheel_27 hl (k := 2) rfl rfl (by decide) rfl (fun ls hl => ?_)
            refine lv_goto (tgt := 4) hx hb dX11_offWheel_30 (by decide) ?_
            exact ih (v2 + (-1 : Int32)) (v3 + (1 : Int32)) _ _ ls (lv_sub hl [2, 1, 0] rfl) hP hD hS hf
          · have hf := (if_pos c4).symm.trans hf
            refine lv_iload_n hx hb dX11_offWheel_22 rfl (lv_at hl 2 rfl) ?_
            exact k_iret (v := v3) (u := ()) hx hb hr hlocks hK hS eQ hf hP hD dX11_offWheel_23
  rw [f_X11_offWheel] at hf
  refine lv_iload_n hx hb dX11_offWheel_0 rfl (lv_at hl 1 rfl) ?_
  refine lv_istore_n (lv' := [(2, .int p1), (0, .ref th0), (1, .int p1)]) hx hb dX11_offWheel_1 rfl hl (by decide) rfl (fun ls hl => ?_)
  refine lv_iconst (v := 0) hx hb dX11_offWheel_2 (by decide) ?_
  refine lv_istore_n (lv' := [(3, .int (0 : Int32)), (2, .int p1), (0, .ref th0), (1, .int p1)]) hx hb dX11_offWheel_3 rfl hl (by decide) rfl (fun ls hl => ?_)
  exact hL4 oF p1 (0 : Int32) _ _ ls (lv_sub hl [2, 1, 0] rfl) hP hD hS hf
theorem hd_X11_chance : yX11_chance.cls ≠ "java/lang/invoke/MethodHandle" ∧ yX11_chance.cls ≠ "java/lang/invoke/VarHandle" ∧ (parseMethodDescriptor yX11_chance.desc).map (fun d => d.parameters.length) = some 3 := by decide +kernel
set_option maxHeartbeats 4000000 in
set_option maxRecDepth 100000 in
theorem c_X11_chance (l : Launch) (D : va_G) (cI cZ : ClassId) (th0 : Nat) (th1 : Nat) (th2 : Nat) (th3 : Nat) (th4 : Nat) (th5 : Nat) (th6 : Nat) (th7 : Nat) (th8 : Nat) (th9 : Nat) (sz : Nat) (u_th : sM) (p1 : Int32) (p2 : Int32) (p3 : Int32) (z : Int64 × sM) (hf : f_X11_chance u_th p1 p2 p3 = some z) : Met l yX11_chance wsX11_chance rmX11_chance (va_Pc [.ref th0, .int p1, .int p2, .int p3] (wPr D cI cZ (ceM cI cZ th0 th1 th2 th3 th4 th5 th6 th7 th8 th9 u_th) sz)) (va_Ql (fun (r : Int64) (v : sM) => (r, v) = z) (fun (v : sM) t => wPo D cI cZ (va_A (ceM cI cZ th0 th1 th2 th3 th4 th5 th6 th7 th8 th9 u_th) sz) (ceM cI cZ th0 th1 th2 th3 th4 th5 th6 th7 th8 th9 v) t) (va_A (ceM cI cZ th0 th1 th2 th3 th4 th5 th6 th7 th8 th9 u_th) sz)) 0 0 (va_A (ceM cI cZ th0 th1 th2 th3 th4 th5 th6 th7 th8 th9 u_th) sz) := by
  refine k_enter (D := D) (cI := cI) (cZ := cZ) (wl := ceM cI cZ th0 th1 th2 th3 th4 th5 th6 th7 th8 th9 u_th) (sz := sz) (av := [.ref th0, .int p1, .int p2, .int p3]) (cc := cX11_chance) (maxL := 17) (ret := (some .long)) (Qc := fun A => va_Ql (fun (r : Int64) (v : sM) => (r, v) = z) (fun (v : sM) t => wPo D cI cZ (A) (ceM cI cZ th0 th1 th2 th3 th4 th5 th6 th7 th8 th9 v) t) (A)) (by decide) rfl (Nat.le_of_ble_eq_true rfl) ?_
  intro p e s m below meth c ls A Q H locs eQ hx hb hr hml hts hown hlocks hK hP hD hS hA hE hl
  have hown : s.vm.findClass RX11 = some m.cls := hown
  have hl : lv_has ls 17 [(0, .ref th0), (1, .int p1), (2, .int p2), (3, .int p3)] := hl
  have hi_X11 : ∀ w ∈ wsX110, w ∈ wsX11_chance := fun w h => List.mem_cons_of_mem _ (List.mem_append_right _ h)
  have hL290 : ∀ (n : Nat), ∀ (v3 : Int32) (v4 : Int64) (v6 : Int64) (v9 : Int64) (v11 : Int64) (u_th : sM) (H : Heap) (locs : List Loc) (ls : Array Slot), lv_has ls 17 [(3, .int v3), (4, .long v4), (6, .long v6), (9, .long v9), (11, .long v11)] → va_P D vwCl (ceM cI cZ th0 th1 th2 th3 th4 th5 th6 th7 th8 th9 u_th) H → va_D A (ceM cI cZ th0 th1 th2 th3 th4 th5 th6 th7 th8 th9 u_th) → va_S A s.heap H locs → f_X11_chance_L290 n v3 v4 v6 v9 v11 u_th = some z → W p l e (headSpec wsX11_chance rmX11_chance).room s m ([.ref th0, .int p1, .int p2, .int p3] : List Value).toArray below meth c H locs 0 0 Q (F0 m 290 ls []) := by
    intro n
    induction n with
    | zero =>
      intro v3 v4 v6 v9 v11 u_th H locs ls hl hP hD hS hf
      exact absurd (show (none : Option (Int64 × sM)) = some z from hf) (fun h => by cases h)
    | succ n ih =>
      intro v3 v4 v6 v9 v11 u_th H locs ls hl hP hD hS hf
      rw [f_X11_chance_L290] at hf
      refine lv_lload hx hb dX11_chance_290 (lv_at hl 4 rfl) ?_
      refine lv_lconst (v := 0) hx hb dX11_chance_292 (by decide) ?_
      refine W.lcmp hx hb dX11_chance_293 ?_
      refine lv_if_eq (tgt := 315) hx hb dX11_chance_294 (by decide) (fun c10 => ?_) (fun c10 => ?_)
      · have hf := (if_pos c10).symm.trans hf
        refine lv_iload_n hx hb dX11_chance_315 rfl (lv_at hl 0 rfl) ?_
        refine lv_if_ne (tgt := 327) hx hb dX11_chance_316 (by decide) (fun c11 => ?_) (fun c11 => ?_)
        · have hf := (if_neg c11).symm.trans hf
          refine lv_lload hx hb dX11_chance_327 (lv_at hl 2 rfl) ?_
          refine lv_lload hx hb dX11_chance_329 (lv_at hl 3 rfl) ?_
          by_cases c12 : v9 = 0
          · have hf := (if_pos c12).symm.trans hf
            cases hf
          have hf := (if_neg c12).symm.trans hf
          refine lv_ldiv hx hb dX11_chance_331 c12 ?_
          exact k_lret (v := (v6 / v9)) (u := u_th) hx hb hr hlocks hK hS eQ hf hP hD dX11_chance_332
        · have hf := (if_pos c11).symm.trans hf
          refine lv_lload hx hb dX11_chance_319 (lv_at hl 1 rfl) ?_
          refine lv_lload hx hb dX11_chance_321 (lv_at hl 3 rfl) ?_
          by_cases c13 : v9 = 0
          · have hf := (if_pos c13).symm.trans hf
            cases hf
          have hf := (if_neg c13).symm.trans hf
          refine lv_ldiv hx hb dX11_chance_323 c13 ?_
          refine lv_goto (tgt := 332) hx hb dX11_chance_324 (by decide) ?_
          exact k_lret (v := (v4 / v9)) (u := u_th) hx hb hr hlocks hK hS eQ hf hP hD dX11_chance_332
      · have hf := (if_neg c10).symm.trans hf
        refine lv_lload hx hb dX11_chance_297 (lv_at hl 3 rfl) ?_
        refine lv_lload hx hb dX11_chance_299 (lv_at hl 4 rfl) ?_
        by_cases c14 : v11 = 0
        · have hf := (if_pos c14).symm.trans hf
          cases hf
        have hf := (if_neg c14).symm.trans hf
        refine lv_lrem hx hb dX11_chance_301 c14 ?_
        refine lv_lstore (lv' := [(13, .long (v9 - v9 / v11 * v11)), (3, .int v3), (4, .long v4), (6, .long v6), (9, .long v9), (11, .long v11)]) hx hb dX11_chance_302 hl (by decide) rfl (fun ls hl => ?_)
        refine lv_lload hx hb dX11_chance_304 (lv_at hl 5 rfl) ?_
        refine lv_lstore (lv' := [(9, .long v11), (13, .long (v9 - v9 / v11 * v11)), (3, .int v3), (4, .long v4), (6, .long v6), (11, .long v11)]) hx hb dX11_chance_306 hl (by decide) rfl (fun ls hl => ?_)
        refine lv_lload hx hb dX11_chance_308 (lv_at hl 1 rfl) ?_
        refine lv_lstore (lv' := [(11, .long (v9 - v9 / v11 * v11)), (9, .long v11), (13, .long (v9 - v9 / v11 * v11)), (3, .int v3), (4, .long v4), (6, .long v6)]) hx hb dX11_chance_310 hl (by decide) rfl (fun ls hl => ?_)
        refine lv_goto (tgt := 290) hx hb dX11_chance_312 (by decide) ?_
        exact ih v3 v4 v6 v11 (v9 - v9 / v11 * v11) u_th _ _ ls (lv_sub hl [3, 4, 5, 1, 0] rfl) hP hD hS hf
  have hJ242 : ∀ (K_73 : Int32 → Int32 → Int32 → Int64 → Int64 → Int32 → Int32 → sM → Option (Int64 × sM)), (∀ (v1 : Int32) (v2 : Int32) (v3 : Int32) (v4 : Int64) (v6 : Int64) (v8 : Int32) (v9 : Int32) (u_th : sM) (H : Heap) (locs : List Loc) (ls : Array Slot), lv_has ls 17 [(0, .ref th0), (1, .int v1), (2, .int v2), (3, .int v3), (4, .long v4), (6, .long v6), (8, .int v8), (9, .int v9)] → va_P D vwCl (ceM cI cZ th0 th1 th2 th3 th4 th5 th6 th7 th8 th9 u_th) H → va_D A (ceM cI cZ th0 th1 th2 th3 th4 th5 th6 th7 th8 th9 u_th) → va_S A s.heap H locs → K_73 v1 v2 v3 v4 v6 v8 v9 u_th = some z → W p l e (headSpec wsX11_chance rmX11_chance).room s m ([.ref th0, .int p1, .int p2, .int p3] : List Value).toArray below meth c H locs 0 0 Q (F0 m 73 ls [])) → ∀ (K_94 : Int32 → Int32 → Int32 → Int64 → Int64 → Int32 → Int32 → Int64 → Int32 → Int32 → sM → Option (Int64 × sM)), (∀ (v1 : Int32) (v2 : Int32) (v3 : Int32) (v4 : Int64) (v6 : Int64) (v8 : Int32) (v9 : Int32) (v10 : Int64) (v12 : Int32) (v13 : Int32) (u_th : sM) (H : Heap) (locs : List Loc) (ls : Array Slot), lv_has ls 17 [(0, .ref th0), (1, .int v1), (2, .int v2), (3, .int v3), (4, .long v4), (6, .long v6), (8, .int v8), (9, .int v9), (10, .long v10), (12, .int v12), (13, .int v13)] → va_P D vwCl (ceM cI cZ th0 th1 th2 th3 th4 th5 th6 th7 th8 th9 u_th) H → va_D A (ceM cI cZ th0 th1 th2 th3 th4 th5 th6 th7 th8 th9 u_th) → va_S A s.heap H locs → K_94 v1 v2 v3 v4 v6 v8 v9 v10 v12 v13 u_th = some z → W p l e (headSpec wsX11_chance rmX11_chance).room s m ([.ref th0, .int p1, .int p2, .int p3] : List Value).toArray below meth c H locs 0 0 Q (F0 m 94 ls [])) → ∀ (v1 : Int32) (v2 : Int32) (v3 : Int32) (v4 : Int64) (v6 : Int64) (v8 : Int32) (v9 : Int32) (v10 : Int64) (v12 : Int32) (v13 : Int32) (u_th : sM) (H : Heap) (locs : List Loc) (ls : Array Slot), lv_has ls 17 [(0, .ref th0), (1, .int v1), (2, .int v2), (3, .int v3), (4, .long v4), (6, .long v6), (8, .int v8), (9, .int v9), (10, .long v10), (12, .int v12), (13, .int v13)] → va_P D vwCl (ceM cI cZ th0 th1 th2 th3 th4 th5 th6 th7 th8 th9 u_th) H → va_D A (ceM cI cZ th0 th1 th2 th3 th4 th5 th6 th7 th8 th9 u_th) → va_S A s.heap H locs → f_X11_chance_J242 K_73 K_94 v1 v2 v3 v4 v6 v8 v9 v10 v12 v13 u_th = some z → W p l e (headSpec wsX11_chance rmX11_chance).room s m ([.ref th0, .int p1, .int p2, .int p3] : List Value).toArray below meth c H locs 0 0 Q (F0 m 242 ls []) := by
    intro K_73 hK_73 K_94 hK_94 v1 v2 v3 v4 v6 v8 v9 v10 v12 v13 u_th H locs ls hl hP hD hS hf
    rw [f_X11_chance_J242] at hf
    refine lv_aload_n hx hb dX11_chance_242 rfl (lv_at hl 0 rfl) ?_
    obtain ⟨z25, hz_z25, hf⟩ := o_bind hf
    refine k_callv (va_runV (As := []) (rest := []) ⟨hx, hb, hml, hown, hts⟩ (c_X11_letGo l D cI cZ th0 th1 th2 th3 th4 th5 th6 th7 th8 th9 H.size u_th z25 hz_z25) (cwV 0 hts gX11_chance_X11_letGo rfl rfl rfl ⟨rfl, hd_X11_letGo⟩ ⟨Nat.le_of_ble_eq_true rfl, Nat.le_of_ble_eq_true rfl⟩) (k_preV hK hP hD hS hA hE [0, 1, 2, 3, 4, 5, 6, 7, 8, 9] (by decide) rfl (ci := 8) rfl rfl) rfl rfl hl.1 rfl (lv_room (Nat.le_of_ble_eq_true rfl)) dX11_chance_243 ⟨Nat.zero_le _, Nat.zero_le _⟩) hP hD hS hA [0, 1, 2, 3, 4, 5, 6, 7, 8, 9] [some 0, some 1, some 2, some 3, some 4, some 5, some 6, some 7, some 8, some 9] 10 rfl (by decide) (by decide) rfl rfl (fun H locs hP hD hS => ?_)
    have hP : va_P D vwCl (ceM cI cZ th0 th1 th2 th3 th4 th5 th6 th7 th8 th9 z25) H := hP
    have hD : va_D A (ceM cI cZ th0 th1 th2 th3 th4 th5 th6 th7 th8 th9 z25) := hD
    refine lv_iinc (v := (v13 + (1 : Int32))) (lv' := [(13, .int (v13 + (1 : Int32))), (0, .ref th0), (1, .int v1), (2, .int v2), (3, .int v3), (4, .long v4), (6, .long v6), (8, .int v8), (9, .int v9), (10, .long v10), (12, .int v12)]) hx hb dX11_chance_246 hl (k := 10) rfl rfl (by decide) rfl (fun ls hl => ?_)
    refine lv_goto (tgt := 94) hx hb dX11_chance_249 (by decide) ?_
    exact hK_94 v1 v2 v3 v4 v6 v8 v9 v10 v12 (v13 + (1 : Int32)) z25 _ _ ls (lv_sub hl [1, 2, 3, 4, 5, 6, 7, 8, 9, 10, 0] rfl) hP hD hS hf
  have hJ200 : ∀ (K_73 : Int32 → Int32 → Int32 → Int64 → Int64 → Int32 → Int32 → sM → Option (Int64 × sM)), (∀ (v1 : Int32) (v2 : Int32) (v3 : Int32) (v4 : Int64) (v6 : Int64) (v8 : Int32) (v9 : Int32) (u_th : sM) (H : Heap) (locs : List Loc) (ls : Array Slot), lv_has ls 17 [(0, .ref th0), (1, .int v1), (2, .int v2), (3, .int v3), (4, .long v4), (6, .long v6), (8, .int v8), (9, .int v9)] → va_P D vwCl (ceM cI cZ th0 th1 th2 th3 th4 th5 th6 th7 th8 th9 u_th) H → va_D A (ceM cI cZ th0 th1 th2 th3 th4 th5 th6 th7 th8 th9 u_th) → va_S A s.heap H locs → K_73 v1 v2 v3 v4 v6 v8 v9 u_th = some z → W p l e (headSpec wsX11_chance rmX11_chance).room s m ([.ref th0, .int p1, .int p2, .int p3] : List Value).toArray below meth c H locs 0 0 Q (F0 m 73 ls [])) → ∀ (K_94 : Int32 → Int32 → Int32 → Int64 → Int64 → Int32 → Int32 → Int64 → Int32 → Int32 → sM → Option (Int64 × sM)), (∀ (v1 : Int32) (v2 : Int32) (v3 : Int32) (v4 : Int64) (v6 : Int64) (v8 : Int32) (v9 : Int32) (v10 : Int64) (v12 : Int32) (v13 : Int32) (u_th : sM) (H : Heap) (locs : List Loc) (ls : Array Slot), lv_has ls 17 [(0, .ref th0), (1, .int v1), (2, .int v2), (3, .int v3), (4, .long v4), (6, .long v6), (8, .int v8), (9, .int v9), (10, .long v10), (12, .int v12), (13, .int v13)] → va_P D vwCl (ceM cI cZ th0 th1 th2 th3 th4 th5 th6 th7 th8 th9 u_th) H → va_D A (ceM cI cZ th0 th1 th2 th3 th4 th5 th6 th7 th8 th9 u_th) → va_S A s.heap H locs → K_94 v1 v2 v3 v4 v6 v8 v9 v10 v12 v13 u_th = some z → W p l e (headSpec wsX11_chance rmX11_chance).room s m ([.ref th0, .int p1, .int p2, .int p3] : List Value).toArray below meth c H locs 0 0 Q (F0 m 94 ls [])) → ∀ (v1 : Int32) (v2 : Int32) (v3 : Int32) (v4 : Int64) (v6 : Int64) (v8 : Int32) (v9 : Int32) (v12 : Int32) (v13 : Int32) (v14 : Int32) (v15 : Int32) (v16 : Int32) (s0 : Int64) (s1 : Int64) (u_th : sM) (H : Heap) (locs : List Loc) (ls : Array Slot), lv_has ls 17 [(0, .ref th0), (1, .int v1), (2, .int v2), (3, .int v3), (4, .long v4), (6, .long v6), (8, .int v8), (9, .int v9), (12, .int v12), (13, .int v13), (14, .int v14), (15, .int v15), (16, .int v16)] → va_P D vwCl (ceM cI cZ th0 th1 th2 th3 th4 th5 th6 th7 th8 th9 u_th) H → va_D A (ceM cI cZ th0 th1 th2 th3 th4 th5 th6 th7 th8 th9 u_th) → va_S A s.heap H locs → f_X11_chance_J200 K_73 K_94 v1 v2 v3 v4 v6 v8 v9 v12 v13 v14 v15 v16 s0 s1 u_th = some z → W p l e (headSpec wsX11_chance rmX11_chance).room s m ([.ref th0, .int p1, .int p2, .int p3] : List Value).toArray below meth c H locs 0 0 Q (F0 m 200 ls [.long s1, .long s0]) := by
    intro K_73 hK_73 K_94 hK_94 v1 v2 v3 v4 v6 v8 v9 v12 v13 v14 v15 v16 s0 s1 u_th H locs ls hl hP hD hS hf
    rw [f_X11_chance_J200] at hf
    refine lv_lmul hx hb dX11_chance_200 ?_
    refine lv_lstore (lv' := [(10, .long (s0 * s1)), (0, .ref th0), (1, .int v1), (2, .int v2), (3, .int v3), (4, .long v4), (6, .long v6), (8, .int v8), (9, .int v9), (12, .int v12), (13, .int v13), (14, .int v14), (15, .int v15), (16, .int v16)]) hx hb dX11_chance_201 hl (by decide) rfl (fun ls hl => ?_)
    refine lv_iload hx hb dX11_chance_203 (lv_at hl 11 rfl) ?_
    refine lv_iload hx hb dX11_chance_205 (lv_at hl 13 rfl) ?_
    refine lv_icmp_ge (tgt := 242) hx hb dX11_chance_207 (by decide) (fun c24 => ?_) (fun c24 => ?_)
    · have hf := (if_pos c24).symm.trans hf
      exact hJ242 K_73 hK_73 K_94 hK_94 v1 v2 v3 v4 v6 v8 v9 (s0 * s1) v12 v13 u_th _ _ ls (lv_sub hl [1, 2, 3, 4, 5, 6, 7, 8, 0, 9, 10] rfl) hP hD hS hf
    · have hf := (if_neg c24).symm.trans hf
      refine lv_aload_n hx hb dX11_chance_210 rfl (lv_at hl 1 rfl) ?_
      refine va_get (D := D) (ci := 8) (v := .ref th6) (C := RX11) (T := TX11) (N := 17) hx hb hts hi_X11 hown hK hP 0 rfl rfl 12 (by decide) (hts (.fieldLink RX11 29 "FairWheelModel" "now" "[I") (List.mem_of_getElem? (i := 4) rfl)) (fun _ h9 => h9) rfl dX11_chance_211 ?_
      refine lv_aload_n hx hb dX11_chance_214 rfl (lv_at hl 1 rfl) ?_
      refine va_get (D := D) (ci := 8) (v := .int (M_foot u_th)) (C := RX11) (T := TX11) (N := 17) hx hb hts hi_X11 hown hK hP 0 rfl rfl 9 (by decide) (hts (.fieldLink RX11 60 "FairWheelModel" "foot" "I") (List.mem_of_getElem? (i := 5) rfl)) (fun _ h9 => h9) rfl dX11_chance_215 ?_
      by_cases c26 : (M_foot u_th) < 0 ∨ 8 ≤ (M_foot u_th).toNatClampNeg
      · have hf := (if_pos c26).symm.trans hf
        cases hf
      have hf := (if_neg c26).symm.trans hf
      refine va_iald hx hb hK hP 6 0 rfl rfl (show vp_in (M_foot u_th) 8 from c26) dX11_chance_218 ?_
      refine lv_if_ge (tgt := 242) hx hb dX11_chance_219 (by decide) (fun c27 => ?_) (fun c27 => ?_)
      · have hf := (if_pos c27).symm.trans hf
        exact hJ242 K_73 hK_73 K_94 hK_94 v1 v2 v3 v4 v6 v8 v9 (s0 * s1) v12 v13 u_th _ _ ls (lv_sub hl [1, 2, 3, 4, 5, 6, 7, 8, 0, 9, 10] rfl) hP hD hS hf
      · have hf := (if_neg c27).symm.trans hf
        refine lv_iload hx hb dX11_chance_222 (lv_at hl 12 rfl) ?_
        refine lv_if_le (tgt := 242) hx hb dX11_chance_224 (by decide) (fun c28 => ?_) (fun c28 => ?_)
        · have hf := (if_pos c28).symm.trans hf
          exact hJ242 K_73 hK_73 K_94 hK_94 v1 v2 v3 v4 v6 v8 v9 (s0 * s1) v12 v13 u_th _ _ ls (lv_sub hl [1, 2, 3, 4, 5, 6, 7, 8, 0, 9, 10] rfl) hP hD hS hf
        · have hf := (if_neg c28).symm.trans hf
          refine lv_aload_n hx hb dX11_chance_227 rfl (lv_at hl 1 rfl) ?_
          refine va_get (D := D) (ci := 8) (v := .ref th6) (C := RX11) (T := TX11) (N := 17) hx hb hts hi_X11 hown hK hP 0 rfl rfl 12 (by decide) (hts (.fieldLink RX11 29 "FairWheelModel" "now" "[I") (List.mem_of_getElem? (i := 4) rfl)) (fun _ h9 => h9) rfl dX11_chance_228 ?_
          refine lv_aload_n hx hb dX11_chance_231 rfl (lv_at hl 1 rfl) ?_
          refine va_get (D := D) (ci := 8) (v := .int (M_foot u_th)) (C := RX11) (T := TX11) (N := 17) hx hb hts hi_X11 hown hK hP 0 rfl rfl 9 (by decide) (hts (.fieldLink RX11 60 "FairWheelModel" "foot" "I") (List.mem_of_getElem? (i := 5) rfl)) (fun _ h9 => h9) rfl dX11_chance_232 ?_
          refine lv_aload_n hx hb dX11_chance_235 rfl (lv_at hl 1 rfl) ?_
          refine lv_iload hx hb dX11_chance_236 (lv_at hl 11 rfl) ?_
          obtain ⟨z29, hz_z29, hf⟩ := o_bind hf
          refine k_calli (va_runV (As := [.int v14]) (rest := [.int (M_foot u_th), .ref th6]) ⟨hx, hb, hml, hown, hts⟩ (c_X11_offWheel l D cI cZ th0 th1 th2 th3 th4 th5 th6 th7 th8 th9 H.size u_th v14 z29 hz_z29) (cwV 1 hts gX11_chance_X11_offWheel rfl rfl rfl ⟨rfl, hd_X11_offWheel⟩ ⟨Nat.le_of_ble_eq_true rfl, Nat.le_of_ble_eq_true rfl⟩) (k_preV hK hP hD hS hA hE [0, 1, 2, 3, 4, 5, 6, 7, 8, 9] (by decide) rfl (ci := 8) rfl rfl) rfl rfl hl.1 rfl (lv_room (Nat.le_of_ble_eq_true rfl)) dX11_chance_238 ⟨Nat.zero_le _, Nat.zero_le _⟩) hP hD hS hA [0, 1, 2, 3, 4, 5, 6, 7, 8, 9] [some 0, some 1, some 2, some 3, some 4, some 5, some 6, some 7, some 8, some 9] 10 rfl (by decide) (by decide) rfl rfl (fun H locs hP hD hS => ?_)
          have hP : va_P D vwCl (ceM cI cZ th0 th1 th2 th3 th4 th5 th6 th7 th8 th9 u_th) H := hP
          have hD : va_D A (ceM cI cZ th0 th1 th2 th3 th4 th5 th6 th7 th8 th9 u_th) := hD
          by_cases c30 : (M_foot u_th) < 0 ∨ 8 ≤ (M_foot u_th).toNatClampNeg
          · have hf := (if_pos c30).symm.trans hf
            cases hf
          have hf := (if_neg c30).symm.trans hf
          refine va_iast hx hb hK hP hD hS 6 0 rfl rfl (show vp_in (M_foot u_th) 8 from c30) dX11_chance_241 (fun H locs hP hD hS => ?_)
          have hP : va_P D vwCl (ceM cI cZ th0 th1 th2 th3 th4 th5 th6 th7 th8 th9 ((M_weight u_th), (M_sits u_th), (M_stones u_th), (M_at u_th), (M_drag u_th), (M_sights u_th), (M_sight u_th), (M_signs u_th), (M_pad u_th), (M_foot u_th), (M_turned u_th), (M_bothWays u_th), (upd (M_now u_th) (M_foot u_th).toNatClampNeg z29.1), (M_heap u_th), (M_reason u_th), (M_image u_th), (M_isKept u_th))) H := hP
          have hD : va_D A (ceM cI cZ th0 th1 th2 th3 th4 th5 th6 th7 th8 th9 ((M_weight u_th), (M_sits u_th), (M_stones u_th), (M_at u_th), (M_drag u_th), (M_sights u_th), (M_sight u_th), (M_signs u_th), (M_pad u_th), (M_foot u_th), (M_turned u_th), (M_bothWays u_th), (upd (M_now u_th) (M_foot u_th).toNatClampNeg z29.1), (M_heap u_th), (M_reason u_th), (M_image u_th), (M_isKept u_th))) := hD
          exact hJ242 K_73 hK_73 K_94 hK_94 v1 v2 v3 v4 v6 v8 v9 (s0 * s1) v12 v13 ((M_weight u_th), (M_sits u_th), (M_stones u_th), (M_at u_th), (M_drag u_th), (M_sights u_th), (M_sight u_th), (M_signs u_th), (M_pad u_th), (M_foot u_th), (M_turned u_th), (M_bothWays u_th), (upd (M_now u_th) (M_foot u_th).toNatClampNeg z29.1), (M_heap u_th), (M_reason u_th), (M_image u_th), (M_isKept u_th)) _ _ ls (lv_sub hl [1, 2, 3, 4, 5, 6, 7, 8, 0, 9, 10] rfl) hP hD hS hf
  have hJ178 : ∀ (K_73 : Int32 → Int32 → Int32 → Int64 → Int64 → Int32 → Int32 → sM → Option (Int64 × sM)), (∀ (v1 : Int32) (v2 : Int32) (v3 : Int32) (v4 : Int64) (v6 : Int64) (v8 : Int32) (v9 : Int32) (u_th : sM) (H : Heap) (locs : List Loc) (ls : Array Slot), lv_has ls 17 [(0, .ref th0), (1, .int v1), (2, .int v2), (3, .int v3), (4, .long v4), (6, .long v6), (8, .int v8), (9, .int v9)] → va_P D vwCl (ceM cI cZ th0 th1 th2 th3 th4 th5 th6 th7 th8 th9 u_th) H → va_D A (ceM cI cZ th0 th1 th2 th3 th4 th5 th6 th7 th8 th9 u_th) → va_S A s.heap H locs → K_73 v1 v2 v3 v4 v6 v8 v9 u_th = some z → W p l e (headSpec wsX11_chance rmX11_chance).room s m ([.ref th0, .int p1, .int p2, .int p3] : List Value).toArray below meth c H locs 0 0 Q (F0 m 73 ls [])) → ∀ (K_94 : Int32 → Int32 → Int32 → Int64 → Int64 → Int32 → Int32 → Int64 → Int32 → Int32 → sM → Option (Int64 × sM)), (∀ (v1 : Int32) (v2 : Int32) (v3 : Int32) (v4 : Int64) (v6 : Int64) (v8 : Int32) (v9 : Int32) (v10 : Int64) (v12 : Int32) (v13 : Int32) (u_th : sM) (H : Heap) (locs : List Loc) (ls : Array Slot), lv_has ls 17 [(0, .ref th0), (1, .int v1), (2, .int v2), (3, .int v3), (4, .long v4), (6, .long v6), (8, .int v8), (9, .int v9), (10, .long v10), (12, .int v12), (13, .int v13)] → va_P D vwCl (ceM cI cZ th0 th1 th2 th3 th4 th5 th6 th7 th8 th9 u_th) H → va_D A (ceM cI cZ th0 th1 th2 th3 th4 th5 th6 th7 th8 th9 u_th) → va_S A s.heap H locs → K_94 v1 v2 v3 v4 v6 v8 v9 v10 v12 v13 u_th = some z → W p l e (headSpec wsX11_chance rmX11_chance).room s m ([.ref th0, .int p1, .int p2, .int p3] : List Value).toArray below meth c H locs 0 0 Q (F0 m 94 ls [])) → ∀ (v1 : Int32) (v2 : Int32) (v3 : Int32) (v4 : Int64) (v6 : Int64) (v8 : Int32) (v9 : Int32) (v10 : Int64) (v12 : Int32) (v13 : Int32) (v14 : Int32) (v15 : Int32) (s0 : Int32) (u_th : sM) (H : Heap) (locs : List Loc) (ls : Array Slot), lv_has ls 17 [(0, .ref th0), (1, .int v1), (2, .int v2), (3, .int v3), (4, .long v4), (6, .long v6), (8, .int v8), (9, .int v9), (10, .long v10), (12, .int v12), (13, .int v13), (14, .int v14), (15, .int v15)] → va_P D vwCl (ceM cI cZ th0 th1 th2 th3 th4 th5 th6 th7 th8 th9 u_th) H → va_D A (ceM cI cZ th0 th1 th2 th3 th4 th5 th6 th7 th8 th9 u_th) → va_S A s.heap H locs → f_X11_chance_J178 K_73 K_94 v1 v2 v3 v4 v6 v8 v9 v10 v12 v13 v14 v15 s0 u_th = some z → W p l e (headSpec wsX11_chance rmX11_chance).room s m ([.ref th0, .int p1, .int p2, .int p3] : List Value).toArray below meth c H locs 0 0 Q (F0 m 178 ls [.int s0]) := by
    intro K_73 hK_73 K_94 hK_94 v1 v2 v3 v4 v6 v8 v9 v10 v12 v13 v14 v15 s0 u_th H locs ls hl hP hD hS hf
    rw [f_X11_chance_J178] at hf
    refine lv_istore (lv' := [(16, .int s0), (0, .ref th0), (1, .int v1), (2, .int v2), (3, .int v3), (4, .long v4), (6, .long v6), (8, .int v8), (9, .int v9), (10, .long v10), (12, .int v12), (13, .int v13), (14, .int v14), (15, .int v15)]) hx hb dX11_chance_178 hl (by decide) rfl (fun ls hl => ?_)
    refine lv_lload hx hb dX11_chance_180 (lv_at hl 9 rfl) ?_
    refine lv_iload hx hb dX11_chance_182 (lv_at hl 12 rfl) ?_
    refine lv_iload hx hb dX11_chance_184 (lv_at hl 0 rfl) ?_
    refine lv_icmp_ge (tgt := 199) hx hb dX11_chance_186 (by decide) (fun c23 => ?_) (fun c23 => ?_)
    · have hf := (if_pos c23).symm.trans hf
      refine lv_lconst (v := 0) hx hb dX11_chance_199 (by decide) ?_
      exact hJ200 K_73 hK_73 K_94 hK_94 v1 v2 v3 v4 v6 v8 v9 v12 v13 v14 v15 s0 v10 (0 : Int64) u_th _ _ ls (lv_sub hl [1, 2, 3, 4, 5, 6, 7, 8, 10, 11, 12, 13, 0] rfl) hP hD hS hf
    · have hf := (if_neg c23).symm.trans hf
      refine lv_ldc2 hx hb hown (hts (.constantLong RX11 122 (840)) (List.mem_of_getElem? (i := 3) rfl)) dX11_chance_189 ?_
      refine lv_iload hx hb dX11_chance_192 (lv_at hl 0 rfl) ?_
      refine lv_i2l hx hb dX11_chance_194 rfl ?_
      by_cases c31 : ((s0).toInt64) = 0
      · have hf := (if_pos c31).symm.trans hf
        cases hf
      have hf := (if_neg c31).symm.trans hf
      refine lv_ldiv hx hb dX11_chance_195 c31 ?_
      refine lv_goto (tgt := 200) hx hb dX11_chance_196 (by decide) ?_
      exact hJ200 K_73 hK_73 K_94 hK_94 v1 v2 v3 v4 v6 v8 v9 v12 v13 v14 v15 s0 v10 ((840 : Int64) / ((s0).toInt64)) u_th _ _ ls (lv_sub hl [1, 2, 3, 4, 5, 6, 7, 8, 10, 11, 12, 13, 0] rfl) hP hD hS hf
  have hL123 : ∀ (K_73 : Int32 → Int32 → Int32 → Int64 → Int64 → Int32 → Int32 → sM → Option (Int64 × sM)), (∀ (v1 : Int32) (v2 : Int32) (v3 : Int32) (v4 : Int64) (v6 : Int64) (v8 : Int32) (v9 : Int32) (u_th : sM) (H : Heap) (locs : List Loc) (ls : Array Slot), lv_has ls 17 [(0, .ref th0), (1, .int v1), (2, .int v2), (3, .int v3), (4, .long v4), (6, .long v6), (8, .int v8), (9, .int v9)] → va_P D vwCl (ceM cI cZ th0 th1 th2 th3 th4 th5 th6 th7 th8 th9 u_th) H → va_D A (ceM cI cZ th0 th1 th2 th3 th4 th5 th6 th7 th8 th9 u_th) → va_S A s.heap H locs → K_73 v1 v2 v3 v4 v6 v8 v9 u_th = some z → W p l e (headSpec wsX11_chance rmX11_chance).room s m ([.ref th0, .int p1, .int p2, .int p3] : List Value).toArray below meth c H locs 0 0 Q (F0 m 73 ls [])) → ∀ (K_94 : Int32 → Int32 → Int32 → Int64 → Int64 → Int32 → Int32 → Int64 → Int32 → Int32 → sM → Option (Int64 × sM)), (∀ (v1 : Int32) (v2 : Int32) (v3 : Int32) (v4 : Int64) (v6 : Int64) (v8 : Int32) (v9 : Int32) (v10 : Int64) (v12 : Int32) (v13 : Int32) (u_th : sM) (H : Heap) (locs : List Loc) (ls : Array Slot), lv_has ls 17 [(0, .ref th0), (1, .int v1), (2, .int v2), (3, .int v3), (4, .long v4), (6, .long v6), (8, .int v8), (9, .int v9), (10, .long v10), (12, .int v12), (13, .int v13)] → va_P D vwCl (ceM cI cZ th0 th1 th2 th3 th4 th5 th6 th7 th8 th9 u_th) H → va_D A (ceM cI cZ th0 th1 th2 th3 th4 th5 th6 th7 th8 th9 u_th) → va_S A s.heap H locs → K_94 v1 v2 v3 v4 v6 v8 v9 v10 v12 v13 u_th = some z → W p l e (headSpec wsX11_chance rmX11_chance).room s m ([.ref th0, .int p1, .int p2, .int p3] : List Value).toArray below meth c H locs 0 0 Q (F0 m 94 ls [])) → ∀ (n : Nat), ∀ (v1 : Int32) (v2 : Int32) (v3 : Int32) (v4 : Int64) (v6 : Int64) (v8 : Int32) (v9 : Int32) (v10 : Int64) (v12 : Int32) (v13 : Int32) (v14 : Int32) (v15 : Int32) (v16 : Int32) (u_th : sM) (H : Heap) (locs : List Loc) (ls : Array Slot), lv_has ls 17 [(0, .ref th0), (1, .int v1), (2, .int v2), (3, .int v3), (4, .long v4), (6, .long v6), (8, .int v8), (9, .int v9), (10, .long v10), (12, .int v12), (13, .int v13), (14, .int v14), (15, .int v15), (16, .int v16)] → va_P D vwCl (ceM cI cZ th0 th1 th2 th3 th4 th5 th6 th7 th8 th9 u_th) H → va_D A (ceM cI cZ th0 th1 th2 th3 th4 th5 th6 th7 th8 th9 u_th) → va_S A s.heap H locs → f_X11_chance_L123 K_73 K_94 n v1 v2 v3 v4 v6 v8 v9 v10 v12 v13 v14 v15 v16 u_th = some z → W p l e (headSpec wsX11_chance rmX11_chance).room s m ([.ref th0, .int p1, .int p2, .int p3] : List Value).toArray below meth c H locs 0 0 Q (F0 m 123 ls []) := by
    intro K_73 hK_73 K_94 hK_94 n
    induction n with
    | zero =>
      intro v1 v2 v3 v4 v6 v8 v9 v10 v12 v13 v14 v15 v16 u_th H locs ls hl hP hD hS hf
      exact absurd (show (none : Option (Int64 × sM)) = some z from hf) (fun h => by cases h)
    | succ n ih =>
      intro v1 v2 v3 v4 v6 v8 v9 v10 v12 v13 v14 v15 v16 u_th H locs ls hl hP hD hS hf
      rw [f_X11_chance_L123] at hf
      refine lv_iload hx hb dX11_chance_123 (lv_at hl 13 rfl) ?_
      refine lv_bipush (v := 8) hx hb dX11_chance_125 (by decide) ?_
      refine lv_icmp_ge (tgt := 155) hx hb dX11_chance_127 (by decide) (fun c20 => ?_) (fun c20 => ?_)
      · have hf := (if_pos c20).symm.trans hf
        refine lv_aload_n hx hb dX11_chance_155 rfl (lv_at hl 0 rfl) ?_
        refine va_get (D := D) (ci := 8) (v := .ref th6) (C := RX11) (T := TX11) (N := 17) hx hb hts hi_X11 hown hK hP 0 rfl rfl 12 (by decide) (hts (.fieldLink RX11 29 "FairWheelModel" "now" "[I") (List.mem_of_getElem? (i := 4) rfl)) (fun _ h9 => h9) rfl dX11_chance_156 ?_
        refine lv_aload_n hx hb dX11_chance_159 rfl (lv_at hl 0 rfl) ?_
        refine va_get (D := D) (ci := 8) (v := .int (M_foot u_th)) (C := RX11) (T := TX11) (N := 17) hx hb hts hi_X11 hown hK hP 0 rfl rfl 9 (by decide) (hts (.fieldLink RX11 60 "FairWheelModel" "foot" "I") (List.mem_of_getElem? (i := 5) rfl)) (fun _ h9 => h9) rfl dX11_chance_160 ?_
        by_cases c21 : (M_foot u_th) < 0 ∨ 8 ≤ (M_foot u_th).toNatClampNeg
        · have hf := (if_pos c21).symm.trans hf
          cases hf
        have hf := (if_neg c21).symm.trans hf
        refine va_iald hx hb hK hP 6 0 rfl rfl (show vp_in (M_foot u_th) 8 from c21) dX11_chance_163 ?_
        refine lv_if_ge (tgt := 172) hx hb dX11_chance_164 (by decide) (fun c22 => ?_) (fun c22 => ?_)
        · have hf := (if_pos c22).symm.trans hf
          refine lv_iconst (v := 1) hx hb dX11_chance_172 (by decide) ?_
          refine lv_goto (tgt := 178) hx hb dX11_chance_173 (by decide) ?_
          exact hJ178 K_73 hK_73 K_94 hK_94 v1 v2 v3 v4 v6 v8 v9 v10 v12 v13 v14 v15 (1 : Int32) u_th _ _ ls (lv_sub hl [0, 1, 2, 3, 4, 5, 6, 7, 8, 9, 10, 11, 12] rfl) hP hD hS hf
        · have hf := (if_neg c22).symm.trans hf
          refine lv_iload hx hb dX11_chance_167 (lv_at hl 12 rfl) ?_
          refine lv_if_ne (tgt := 176) hx hb dX11_chance_169 (by decide) (fun c32 => ?_) (fun c32 => ?_)
          · have hf := (if_neg c32).symm.trans hf
            refine lv_iload hx hb dX11_chance_176 (lv_at hl 12 rfl) ?_
            exact hJ178 K_73 hK_73 K_94 hK_94 v1 v2 v3 v4 v6 v8 v9 v10 v12 v13 v14 v15 v15 u_th _ _ ls (lv_sub hl [0, 1, 2, 3, 4, 5, 6, 7, 8, 9, 10, 11, 12] rfl) hP hD hS hf
          · have hf := (if_pos c32).symm.trans hf
            refine lv_iconst (v := 1) hx hb dX11_chance_172 (by decide) ?_
            refine lv_goto (tgt := 178) hx hb dX11_chance_173 (by decide) ?_
            exact hJ178 K_73 hK_73 K_94 hK_94 v1 v2 v3 v4 v6 v8 v9 v10 v12 v13 v14 v15 (1 : Int32) u_th _ _ ls (lv_sub hl [0, 1, 2, 3, 4, 5, 6, 7, 8, 9, 10, 11, 12] rfl) hP hD hS hf
      · have hf := (if_neg c20).symm.trans hf
        refine lv_iload hx hb dX11_chance_130 (lv_at hl 12 rfl) ?_
        refine lv_aload_n hx hb dX11_chance_132 rfl (lv_at hl 0 rfl) ?_
        refine lv_iload hx hb dX11_chance_133 (lv_at hl 13 rfl) ?_
        obtain ⟨z33, hz_z33, hf⟩ := o_bind hf
        refine k_calli (va_runV (As := [.int v16]) (rest := [.int v15]) ⟨hx, hb, hml, hown, hts⟩ (c_X11_carOf l D cI cZ th0 th1 th2 th3 th4 th5 th6 th7 th8 th9 H.size u_th v16 z33 hz_z33) (cwV 1 hts gX11_chance_X11_carOf rfl rfl rfl ⟨rfl, hd_X11_carOf⟩ ⟨Nat.le_of_ble_eq_true rfl, Nat.le_of_ble_eq_true rfl⟩) (k_preV hK hP hD hS hA hE [0, 1, 2, 3, 4, 5, 6, 7, 8, 9] (by decide) rfl (ci := 8) rfl rfl) rfl rfl hl.1 rfl (lv_room (Nat.le_of_ble_eq_true rfl)) dX11_chance_135 ⟨Nat.zero_le _, Nat.zero_le _⟩) hP hD hS hA [0, 1, 2, 3, 4, 5, 6, 7, 8, 9] [some 0, some 1, some 2, some 3, some 4, some 5, some 6, some 7, some 8, some 9] 10 rfl (by decide) (by decide) rfl rfl (fun H locs hP hD hS => ?_)
        have hP : va_P D vwCl (ceM cI cZ th0 th1 th2 th3 th4 th5 th6 th7 th8 th9 u_th) H := hP
        have hD : va_D A (ceM cI cZ th0 th1 th2 th3 th4 th5 th6 th7 th8 th9 u_th) := hD
        refine lv_if_ge (tgt := 145) hx hb dX11_chance_138 (by decide) (fun c34 => ?_) (fun c34 => ?_)
        · have hf := (if_pos c34).symm.trans hf
          refine lv_iconst (v := 0) hx hb dX11_chance_145 (by decide) ?_
          refine lv_iadd hx hb dX11_chance_146 ?_
          refine lv_istore (lv' := [(15, .int (v15 + (0 : Int32))), (0, .ref th0), (1, .int v1), (2, .int v2), (3, .int v3), (4, .long v4), (6, .long v6), (8, .int v8), (9, .int v9), (10, .long v10), (12, .int v12), (13, .int v13), (14, .int v14), (16, .int v16)]) hx hb dX11_chance_147 hl (by decide) rfl (fun ls hl => ?_)
          refine lv_iinc (v := (v16 + (1 : Int32))) (lv' := [(16, .int (v16 + (1 : Int32))), (15, .int (v15 + (0 : Int32))), (0, .ref th0), (1, .int v1), (2, .int v2), (3, .int v3), (4, .long v4), (6, .long v6), (8, .int v8), (9, .int v9), (10, .long v10), (12, .int v12), (13, .int v13), (14, .int v14)]) hx hb dX11_chance_149 hl (k := 13) rfl rfl (by decide) rfl (fun ls hl => ?_)
          refine lv_goto (tgt := 123) hx hb dX11_chance_152 (by decide) ?_
          exact ih v1 v2 v3 v4 v6 v8 v9 v10 v12 v13 v14 (v15 + (0 : Int32)) (v16 + (1 : Int32)) u_th _ _ ls (lv_sub hl [2, 3, 4, 5, 6, 7, 8, 9, 10, 11, 12, 13, 1, 0] rfl) hP hD hS hf
        · have hf := (if_neg c34).symm.trans hf
          refine lv_iconst (v := 1) hx hb dX11_chance_141 (by decide) ?_
          refine lv_goto (tgt := 146) hx hb dX11_chance_142 (by decide) ?_
          refine lv_iadd hx hb dX11_chance_146 ?_
          refine lv_istore (lv' := [(15, .int (v15 + (1 : Int32))), (0, .ref th0), (1, .int v1), (2, .int v2), (3, .int v3), (4, .long v4), (6, .long v6), (8, .int v8), (9, .int v9), (10, .long v10), (12, .int v12), (13, .int v13), (14, .int v14), (16, .int v16)]) hx hb dX11_chance_147 hl (by decide) rfl (fun ls hl => ?_)
          refine lv_iinc (v := (v16 + (1 : Int32))) (lv' := [(16, .int (v16 + (1 : Int32))), (15, .int (v15 + (1 : Int32))), (0, .ref th0), (1, .int v1), (2, .int v2), (3, .int v3), (4, .long v4), (6, .long v6), (8, .int v8), (9, .int v9), (10, .long v10), (12, .int v12), (13, .int v13), (14, .int v14)]) hx hb dX11_chance_149 hl (k := 13) rfl rfl (by decide) rfl (fun ls hl => ?_)
          refine lv_goto (tgt := 123) hx hb dX11_chance_152 (by decide) ?_
          exact ih v1 v2 v3 v4 v6 v8 v9 v10 v12 v13 v14 (v15 + (1 : Int32)) (v16 + (1 : Int32)) u_th _ _ ls (lv_sub hl [2, 3, 4, 5, 6, 7, 8, 9, 10, 11, 12, 13, 1, 0] rfl) hP hD hS hf
  have hL94 : ∀ (K_73 : Int32 → Int32 → Int32 → Int64 → Int64 → Int32 → Int32 → sM → Option (Int64 × sM)), (∀ (v1 : Int32) (v2 : Int32) (v3 : Int32) (v4 : Int64) (v6 : Int64) (v8 : Int32) (v9 : Int32) (u_th : sM) (H : Heap) (locs : List Loc) (ls : Array Slot), lv_has ls 17 [(0, .ref th0), (1, .int v1), (2, .int v2), (3, .int v3), (4, .long v4), (6, .long v6), (8, .int v8), (9, .int v9)] → va_P D vwCl (ceM cI cZ th0 th1 th2 th3 th4 th5 th6 th7 th8 th9 u_th) H → va_D A (ceM cI cZ th0 th1 th2 th3 th4 th5 th6 th7 th8 th9 u_th) → va_S A s.heap H locs → K_73 v1 v2 v3 v4 v6 v8 v9 u_th = some z → W p l e (headSpec wsX11_chance rmX11_chance).room s m ([.ref th0, .int p1, .int p2, .int p3] : List Value).toArray below meth c H locs 0 0 Q (F0 m 73 ls [])) → ∀ (n : Nat), ∀ (v1 : Int32) (v2 : Int32) (v3 : Int32) (v4 : Int64) (v6 : Int64) (v8 : Int32) (v9 : Int32) (v10 : Int64) (v12 : Int32) (v13 : Int32) (u_th : sM) (H : Heap) (locs : List Loc) (ls : Array Slot), lv_has ls 17 [(0, .ref th0), (1, .int v1), (2, .int v2), (3, .int v3), (4, .long v4), (6, .long v6), (8, .int v8), (9, .int v9), (10, .long v10), (12, .int v12), (13, .int v13)] → va_P D vwCl (ceM cI cZ th0 th1 th2 th3 th4 th5 th6 th7 th8 th9 u_th) H → va_D A (ceM cI cZ th0 th1 th2 th3 th4 th5 th6 th7 th8 th9 u_th) → va_S A s.heap H locs → f_X11_chance_L94 K_73 n v1 v2 v3 v4 v6 v8 v9 v10 v12 v13 u_th = some z → W p l e (headSpec wsX11_chance rmX11_chance).room s m ([.ref th0, .int p1, .int p2, .int p3] : List Value).toArray below meth c H locs 0 0 Q (F0 m 94 ls []) := by
    intro K_73 hK_73 n
    induction n with
    | zero =>
      intro v1 v2 v3 v4 v6 v8 v9 v10 v12 v13 u_th H locs ls hl hP hD hS hf
      exact absurd (show (none : Option (Int64 × sM)) = some z from hf) (fun h => by cases h)
    | succ n ih =>
      intro v1 v2 v3 v4 v6 v8 v9 v10 v12 v13 u_th H locs ls hl hP hD hS hf
      rw [f_X11_chance_L94] at hf
      refine lv_iload hx hb dX11_chance_94 (lv_at hl 10 rfl) ?_
      refine lv_iload_n hx hb dX11_chance_96 rfl (lv_at hl 2 rfl) ?_
      refine lv_icmp_ge (tgt := 252) hx hb dX11_chance_97 (by decide) (fun c16 => ?_) (fun c16 => ?_)
      · have hf := (if_pos c16).symm.trans hf
        refine lv_lload hx hb dX11_chance_252 (lv_at hl 4 rfl) ?_
        refine lv_aload_n hx hb dX11_chance_254 rfl (lv_at hl 0 rfl) ?_
        refine va_get (D := D) (ci := 8) (v := .ref th6) (C := RX11) (T := TX11) (N := 17) hx hb hts hi_X11 hown hK hP 0 rfl rfl 12 (by decide) (hts (.fieldLink RX11 29 "FairWheelModel" "now" "[I") (List.mem_of_getElem? (i := 4) rfl)) (fun _ h9 => h9) rfl dX11_chance_255 ?_
        refine lv_aload_n hx hb dX11_chance_258 rfl (lv_at hl 0 rfl) ?_
        refine va_get (D := D) (ci := 8) (v := .int (M_foot u_th)) (C := RX11) (T := TX11) (N := 17) hx hb hts hi_X11 hown hK hP 0 rfl rfl 9 (by decide) (hts (.fieldLink RX11 60 "FairWheelModel" "foot" "I") (List.mem_of_getElem? (i := 5) rfl)) (fun _ h9 => h9) rfl dX11_chance_259 ?_
        by_cases c17 : (M_foot u_th) < 0 ∨ 8 ≤ (M_foot u_th).toNatClampNeg
        · have hf := (if_pos c17).symm.trans hf
          cases hf
        have hf := (if_neg c17).symm.trans hf
        refine va_iald hx hb hK hP 6 0 rfl rfl (show vp_in (M_foot u_th) 8 from c17) dX11_chance_262 ?_
        refine lv_iload_n hx hb dX11_chance_263 rfl (lv_at hl 1 rfl) ?_
        refine lv_icmp_ne (tgt := 272) hx hb dX11_chance_264 (by decide) (fun c18 => ?_) (fun c18 => ?_)
        · have hf := (if_neg c18).symm.trans hf
          refine lv_lconst (v := 0) hx hb dX11_chance_272 (by decide) ?_
          refine lv_ladd hx hb dX11_chance_273 ?_
          refine lv_lstore (lv' := [(4, .long (v4 + (0 : Int64))), (0, .ref th0), (1, .int v1), (2, .int v2), (3, .int v3), (6, .long v6), (8, .int v8), (9, .int v9), (10, .long v10), (12, .int v12), (13, .int v13)]) hx hb dX11_chance_274 hl (by decide) rfl (fun ls hl => ?_)
          refine lv_iinc (v := (v9 + (1 : Int32))) (lv' := [(9, .int (v9 + (1 : Int32))), (4, .long (v4 + (0 : Int64))), (0, .ref th0), (1, .int v1), (2, .int v2), (3, .int v3), (6, .long v6), (8, .int v8), (10, .long v10), (12, .int v12), (13, .int v13)]) hx hb dX11_chance_276 hl (k := 7) rfl rfl (by decide) rfl (fun ls hl => ?_)
          refine lv_goto (tgt := 73) hx hb dX11_chance_279 (by decide) ?_
          exact hK_73 v1 v2 v3 (v4 + (0 : Int64)) v6 v8 (v9 + (1 : Int32)) u_th _ _ ls (lv_sub hl [2, 3, 4, 5, 1, 6, 7, 0] rfl) hP hD hS hf
        · have hf := (if_pos c18).symm.trans hf
          refine lv_lload hx hb dX11_chance_267 (lv_at hl 8 rfl) ?_
          refine lv_goto (tgt := 273) hx hb dX11_chance_269 (by decide) ?_
          refine lv_ladd hx hb dX11_chance_273 ?_
          refine lv_lstore (lv' := [(4, .long (v4 + v10)), (0, .ref th0), (1, .int v1), (2, .int v2), (3, .int v3), (6, .long v6), (8, .int v8), (9, .int v9), (10, .long v10), (12, .int v12), (13, .int v13)]) hx hb dX11_chance_274 hl (by decide) rfl (fun ls hl => ?_)
          refine lv_iinc (v := (v9 + (1 : Int32))) (lv' := [(9, .int (v9 + (1 : Int32))), (4, .long (v4 + v10)), (0, .ref th0), (1, .int v1), (2, .int v2), (3, .int v3), (6, .long v6), (8, .int v8), (10, .long v10), (12, .int v12), (13, .int v13)]) hx hb dX11_chance_276 hl (k := 7) rfl rfl (by decide) rfl (fun ls hl => ?_)
          refine lv_goto (tgt := 73) hx hb dX11_chance_279 (by decide) ?_
          exact hK_73 v1 v2 v3 (v4 + v10) v6 v8 (v9 + (1 : Int32)) u_th _ _ ls (lv_sub hl [2, 3, 4, 5, 1, 6, 7, 0] rfl) hP hD hS hf
      · have hf := (if_neg c16).symm.trans hf
        refine lv_iload hx hb dX11_chance_100 (lv_at hl 9 rfl) ?_
        refine lv_bipush (v := 8) hx hb dX11_chance_102 (by decide) ?_
        refine lv_idiv hx hb dX11_chance_104 (by decide) ?_
        refine lv_istore (lv' := [(12, .int (v12 / (8 : Int32))), (0, .ref th0), (1, .int v1), (2, .int v2), (3, .int v3), (4, .long v4), (6, .long v6), (8, .int v8), (9, .int v9), (10, .long v10), (13, .int v13)]) hx hb dX11_chance_105 hl (by decide) rfl (fun ls hl => ?_)
        refine lv_iload hx hb dX11_chance_107 (lv_at hl 8 rfl) ?_
        refine lv_iload hx hb dX11_chance_109 (lv_at hl 0 rfl) ?_
        by_cases c19 : (v12 / (8 : Int32)) = 0
        · have hf := (if_pos c19).symm.trans hf
          cases hf
        have hf := (if_neg c19).symm.trans hf
        refine lv_idiv hx hb dX11_chance_111 c19 ?_
        refine lv_bipush (v := 8) hx hb dX11_chance_112 (by decide) ?_
        refine lv_irem hx hb dX11_chance_114 (by decide) ?_
        refine lv_istore (lv' := [(14, .int ((v9 / (v12 / (8 : Int32))) - (v9 / (v12 / (8 : Int32))) / (8 : Int32) * (8 : Int32))), (12, .int (v12 / (8 : Int32))), (0, .ref th0), (1, .int v1), (2, .int v2), (3, .int v3), (4, .long v4), (6, .long v6), (8, .int v8), (9, .int v9), (10, .long v10), (13, .int v13)]) hx hb dX11_chance_115 hl (by decide) rfl (fun ls hl => ?_)
        refine lv_iconst (v := 0) hx hb dX11_chance_117 (by decide) ?_
        refine lv_istore (lv' := [(15, .int (0 : Int32)), (14, .int ((v9 / (v12 / (8 : Int32))) - (v9 / (v12 / (8 : Int32))) / (8 : Int32) * (8 : Int32))), (12, .int (v12 / (8 : Int32))), (0, .ref th0), (1, .int v1), (2, .int v2), (3, .int v3), (4, .long v4), (6, .long v6), (8, .int v8), (9, .int v9), (10, .long v10), (13, .int v13)]) hx hb dX11_chance_118 hl (by decide) rfl (fun ls hl => ?_)
        refine lv_iconst (v := 0) hx hb dX11_chance_120 (by decide) ?_
        refine lv_istore (lv' := [(16, .int (0 : Int32)), (15, .int (0 : Int32)), (14, .int ((v9 / (v12 / (8 : Int32))) - (v9 / (v12 / (8 : Int32))) / (8 : Int32) * (8 : Int32))), (12, .int (v12 / (8 : Int32))), (0, .ref th0), (1, .int v1), (2, .int v2), (3, .int v3), (4, .long v4), (6, .long v6), (8, .int v8), (9, .int v9), (10, .long v10), (13, .int v13)]) hx hb dX11_chance_121 hl (by decide) rfl (fun ls hl => ?_)
        exact hL123 K_73 hK_73 (f_X11_chance_L94 K_73 n) ih oF v1 v2 v3 v4 v6 v8 v9 v10 (v12 / (8 : Int32)) v13 ((v9 / (v12 / (8 : Int32))) - (v9 / (v12 / (8 : Int32))) / (8 : Int32) * (8 : Int32)) (0 : Int32) (0 : Int32) u_th _ _ ls (lv_sub hl [4, 5, 6, 7, 8, 9, 10, 11, 12, 3, 13, 2, 1, 0] rfl) hP hD hS hf
  have hL73 : ∀ (n : Nat), ∀ (v1 : Int32) (v2 : Int32) (v3 : Int32) (v4 : Int64) (v6 : Int64) (v8 : Int32) (v9 : Int32) (u_th : sM) (H : Heap) (locs : List Loc) (ls : Array Slot), lv_has ls 17 [(0, .ref th0), (1, .int v1), (2, .int v2), (3, .int v3), (4, .long v4), (6, .long v6), (8, .int v8), (9, .int v9)] → va_P D vwCl (ceM cI cZ th0 th1 th2 th3 th4 th5 th6 th7 th8 th9 u_th) H → va_D A (ceM cI cZ th0 th1 th2 th3 th4 th5 th6 th7 th8 th9 u_th) → va_S A s.heap H locs → f_X11_chance_L73 n v1 v2 v3 v4 v6 v8 v9 u_th = some z → W p l e (headSpec wsX11_chance rmX11_chance).room s m ([.ref th0, .int p1, .int p2, .int p3] : List Value).toArray below meth c H locs 0 0 Q (F0 m 73 ls []) := by
    intro n
    induction n with
    | zero =>
      intro v1 v2 v3 v4 v6 v8 v9 u_th H locs ls hl hP hD hS hf
      exact absurd (show (none : Option (Int64 × sM)) = some z from hf) (fun h => by cases h)
    | succ n ih =>
      intro v1 v2 v3 v4 v6 v8 v9 u_th H locs ls hl hP hD hS hf
      rw [f_X11_chance_L73] at hf
      refine lv_iload hx hb dX11_chance_73 (lv_at hl 7 rfl) ?_
      refine lv_iload hx hb dX11_chance_75 (lv_at hl 6 rfl) ?_
      refine lv_icmp_ge (tgt := 282) hx hb dX11_chance_77 (by decide) (fun c9 => ?_) (fun c9 => ?_)
      · have hf := (if_pos c9).symm.trans hf
        refine lv_lload hx hb dX11_chance_282 (lv_at hl 4 rfl) ?_
        refine lv_lstore (lv' := [(9, .long v4), (0, .ref th0), (1, .int v1), (2, .int v2), (3, .int v3), (4, .long v4), (6, .long v6), (8, .int v8)]) hx hb dX11_chance_284 hl (by decide) rfl (fun ls hl => ?_)
        refine lv_lload hx hb dX11_chance_286 (lv_at hl 6 rfl) ?_
        refine lv_lstore (lv' := [(11, .long v6), (9, .long v4), (0, .ref th0), (1, .int v1), (2, .int v2), (3, .int v3), (4, .long v4), (6, .long v6), (8, .int v8)]) hx hb dX11_chance_288 hl (by decide) rfl (fun ls hl => ?_)
        exact hL290 oF v3 v4 v6 v4 v6 u_th _ _ ls (lv_sub hl [5, 6, 7, 1, 0] rfl) hP hD hS hf
      · have hf := (if_neg c9).symm.trans hf
        refine lv_aload_n hx hb dX11_chance_80 rfl (lv_at hl 0 rfl) ?_
        obtain ⟨z15, hz_z15, hf⟩ := o_bind hf
        refine k_callv (va_runV (As := []) (rest := []) ⟨hx, hb, hml, hown, hts⟩ (c_X11_asNow l D cI cZ th0 th1 th2 th3 th4 th5 th6 th7 th8 th9 H.size u_th z15 hz_z15) (cwV 0 hts gX11_chance_X11_asNow rfl rfl rfl ⟨rfl, hd_X11_asNow⟩ ⟨Nat.le_of_ble_eq_true rfl, Nat.le_of_ble_eq_true rfl⟩) (k_preV hK hP hD hS hA hE [0, 1, 2, 3, 4, 5, 6, 7, 8, 9] (by decide) rfl (ci := 8) rfl rfl) rfl rfl hl.1 rfl (lv_room (Nat.le_of_ble_eq_true rfl)) dX11_chance_81 ⟨Nat.zero_le _, Nat.zero_le _⟩) hP hD hS hA [0, 1, 2, 3, 4, 5, 6, 7, 8, 9] [some 0, some 1, some 2, some 3, some 4, some 5, some 6, some 7, some 8, some 9] 10 rfl (by decide) (by decide) rfl rfl (fun H locs hP hD hS => ?_)
        have hP : va_P D vwCl (ceM cI cZ th0 th1 th2 th3 th4 th5 th6 th7 th8 th9 z15) H := hP
        have hD : va_D A (ceM cI cZ th0 th1 th2 th3 th4 th5 th6 th7 th8 th9 z15) := hD
        refine lv_lconst (v := 1) hx hb dX11_chance_84 (by decide) ?_
        refine lv_lstore (lv' := [(10, .long (1 : Int64)), (0, .ref th0), (1, .int v1), (2, .int v2), (3, .int v3), (4, .long v4), (6, .long v6), (8, .int v8), (9, .int v9)]) hx hb dX11_chance_85 hl (by decide) rfl (fun ls hl => ?_)
        refine lv_iload hx hb dX11_chance_87 (lv_at hl 7 rfl) ?_
        refine lv_istore (lv' := [(12, .int v8), (10, .long (1 : Int64)), (0, .ref th0), (1, .int v1), (2, .int v2), (3, .int v3), (4, .long v4), (6, .long v6), (8, .int v8), (9, .int v9)]) hx hb dX11_chance_89 hl (by decide) rfl (fun ls hl => ?_)
        refine lv_iconst (v := 0) hx hb dX11_chance_91 (by decide) ?_
        refine lv_istore (lv' := [(13, .int (0 : Int32)), (12, .int v8), (10, .long (1 : Int64)), (0, .ref th0), (1, .int v1), (2, .int v2), (3, .int v3), (4, .long v4), (6, .long v6), (8, .int v8), (9, .int v9)]) hx hb dX11_chance_92 hl (by decide) rfl (fun ls hl => ?_)
        exact hL94 (f_X11_chance_L73 n) ih oF v1 v2 v3 v4 v6 v8 v9 (1 : Int64) v8 (0 : Int32) z15 _ _ ls (lv_sub hl [3, 4, 5, 6, 7, 8, 9, 10, 2, 1, 0] rfl) hP hD hS hf
  have hL42 : ∀ (n : Nat), ∀ (v1 : Int32) (v2 : Int32) (v3 : Int32) (v4 : Int64) (v6 : Int64) (v8 : Int32) (u_th : sM) (H : Heap) (locs : List Loc) (ls : Array Slot), lv_has ls 17 [(0, .ref th0), (1, .int v1), (2, .int v2), (3, .int v3), (4, .long v4), (6, .long v6), (8, .int v8)] → va_P D vwCl (ceM cI cZ th0 th1 th2 th3 th4 th5 th6 th7 th8 th9 u_th) H → va_D A (ceM cI cZ th0 th1 th2 th3 th4 th5 th6 th7 th8 th9 u_th) → va_S A s.heap H locs → f_X11_chance_L42 n v1 v2 v3 v4 v6 v8 u_th = some z → W p l e (headSpec wsX11_chance rmX11_chance).room s m ([.ref th0, .int p1, .int p2, .int p3] : List Value).toArray below meth c H locs 0 0 Q (F0 m 42 ls []) := by
    intro n
    induction n with
    | zero =>
      intro v1 v2 v3 v4 v6 v8 u_th H locs ls hl hP hD hS hf
      exact absurd (show (none : Option (Int64 × sM)) = some z from hf) (fun h => by cases h)
    | succ n ih =>
      intro v1 v2 v3 v4 v6 v8 u_th H locs ls hl hP hD hS hf
      rw [f_X11_chance_L42] at hf
      refine lv_iload hx hb dX11_chance_42 (lv_at hl 6 rfl) ?_
      refine lv_iload_n hx hb dX11_chance_44 rfl (lv_at hl 2 rfl) ?_
      refine lv_icmp_ge (tgt := 62) hx hb dX11_chance_45 (by decide) (fun c7 => ?_) (fun c7 => ?_)
      · have hf := (if_pos c7).symm.trans hf
        refine lv_bipush (v := 8) hx hb dX11_chance_62 (by decide) ?_
        refine lv_iload_n hx hb dX11_chance_64 rfl (lv_at hl 2 rfl) ?_
        obtain ⟨z8, hz_z8, hf⟩ := o_bind hf
        refine k_calli (va_runS (As := [.int (8 : Int32), .int v2]) (rest := []) ⟨hx, hb, hml, hown, hts⟩ (c_X11_powerOf l D cI cZ  H.size (8 : Int32) v2 z8 hz_z8) (va_cwS 2 hts gX11_chance_X11_powerOf rfl rfl rfl hd_X11_powerOf ⟨Nat.le_of_ble_eq_true rfl, Nat.le_of_ble_eq_true rfl⟩) (k_preS hK hP hD hS hA hE [] (by decide) rfl) rfl rfl hl.1 rfl (lv_room (Nat.le_of_ble_eq_true rfl)) dX11_chance_65 ⟨Nat.zero_le _, Nat.zero_le _⟩) hP hD hS hA [] [none, none, none, none, none, none, none, none, none, none] 0 rfl (by decide) (by decide) rfl rfl (fun H locs hP hD hS => ?_)
        have hP : va_P D vwCl (ceM cI cZ th0 th1 th2 th3 th4 th5 th6 th7 th8 th9 u_th) H := hP
        have hD : va_D A (ceM cI cZ th0 th1 th2 th3 th4 th5 th6 th7 th8 th9 u_th) := hD
        refine lv_istore (lv' := [(8, .int z8.1), (0, .ref th0), (1, .int v1), (2, .int v2), (3, .int v3), (4, .long v4), (6, .long v6)]) hx hb dX11_chance_68 hl (by decide) rfl (fun ls hl => ?_)
        refine lv_iconst (v := 0) hx hb dX11_chance_70 (by decide) ?_
        refine lv_istore (lv' := [(9, .int (0 : Int32)), (8, .int z8.1), (0, .ref th0), (1, .int v1), (2, .int v2), (3, .int v3), (4, .long v4), (6, .long v6)]) hx hb dX11_chance_71 hl (by decide) rfl (fun ls hl => ?_)
        exact hL73 oF v1 v2 v3 v4 v6 z8.1 (0 : Int32) u_th _ _ ls (lv_sub hl [2, 3, 4, 5, 6, 7, 1, 0] rfl) hP hD hS hf
      · have hf := (if_neg c7).symm.trans hf
        refine lv_lload hx hb dX11_chance_48 (lv_at hl 5 rfl) ?_
        refine lv_ldc2 hx hb hown (hts (.constantLong RX11 122 (840)) (List.mem_of_getElem? (i := 3) rfl)) dX11_chance_50 ?_
        refine lv_lmul hx hb dX11_chance_53 ?_
        refine lv_lstore (lv' := [(6, .long (v6 * (840 : Int64))), (0, .ref th0), (1, .int v1), (2, .int v2), (3, .int v3), (4, .long v4), (8, .int v8)]) hx hb dX11_chance_54 hl (by decide) rfl (fun ls hl => ?_)
        refine lv_iinc (v := (v8 + (1 : Int32))) (lv' := [(8, .int (v8 + (1 : Int32))), (6, .long (v6 * (840 : Int64))), (0, .ref th0), (1, .int v1), (2, .int v2), (3, .int v3), (4, .long v4)]) hx hb dX11_chance_56 hl (k := 6) rfl rfl (by decide) rfl (fun ls hl => ?_)
        refine lv_goto (tgt := 42) hx hb dX11_chance_59 (by decide) ?_
        exact ih v1 v2 v3 v4 (v6 * (840 : Int64)) (v8 + (1 : Int32)) u_th _ _ ls (lv_sub hl [2, 3, 4, 5, 6, 1, 0] rfl) hP hD hS hf
  rw [f_X11_chance] at hf
  refine lv_iload_n hx hb dX11_chance_0 rfl (lv_at hl 1 rfl) ?_
  obtain ⟨z1, hz_z1, hf⟩ := o_bind hf
  refine k_calli (va_runS (As := [.int p1]) (rest := []) ⟨hx, hb, hml, hown, hts⟩ (c_X11_is8 l D cI cZ  H.size p1 z1 hz_z1) (va_cwS 1 hts gX11_chance_X11_is8 rfl rfl rfl hd_X11_is8 ⟨Nat.le_of_ble_eq_true rfl, Nat.le_of_ble_eq_true rfl⟩) (k_preS hK hP hD hS hA hE [] (by decide) rfl) rfl rfl hl.1 rfl (lv_room (Nat.le_of_ble_eq_true rfl)) dX11_chance_1 ⟨Nat.zero_le _, Nat.zero_le _⟩) hP hD hS hA [] [none, none, none, none, none, none, none, none, none, none] 0 rfl (by decide) (by decide) rfl rfl (fun H locs hP hD hS => ?_)
  have hP : va_P D vwCl (ceM cI cZ th0 th1 th2 th3 th4 th5 th6 th7 th8 th9 u_th) H := hP
  have hD : va_D A (ceM cI cZ th0 th1 th2 th3 th4 th5 th6 th7 th8 th9 u_th) := hD
  refine lv_if_ne (tgt := 11) hx hb dX11_chance_4 (by decide) (fun c2 => ?_) (fun c2 => ?_)
  · have hf := (if_neg c2).symm.trans hf
    refine lv_iload_n hx hb dX11_chance_11 rfl (lv_at hl 2 rfl) ?_
    refine lv_iconst (v := 0) hx hb dX11_chance_12 (by decide) ?_
    refine lv_iconst (v := 3) hx hb dX11_chance_13 (by decide) ?_
    obtain ⟨z3, hz_z3, hf⟩ := o_bind hf
    refine k_calli (va_runS (As := [.int p2, .int (0 : Int32), .int (3 : Int32)]) (rest := []) ⟨hx, hb, hml, hown, hts⟩ (c_X11_in l D cI cZ  H.size p2 (0 : Int32) (3 : Int32) z3 hz_z3) (va_cwS 3 hts gX11_chance_X11_in rfl rfl rfl hd_X11_in ⟨Nat.le_of_ble_eq_true rfl, Nat.le_of_ble_eq_true rfl⟩) (k_preS hK hP hD hS hA hE [] (by decide) rfl) rfl rfl hl.1 rfl (lv_room (Nat.le_of_ble_eq_true rfl)) dX11_chance_14 ⟨Nat.zero_le _, Nat.zero_le _⟩) hP hD hS hA [] [none, none, none, none, none, none, none, none, none, none] 0 rfl (by decide) (by decide) rfl rfl (fun H locs hP hD hS => ?_)
    have hP : va_P D vwCl (ceM cI cZ th0 th1 th2 th3 th4 th5 th6 th7 th8 th9 u_th) H := hP
    have hD : va_D A (ceM cI cZ th0 th1 th2 th3 th4 th5 th6 th7 th8 th9 u_th) := hD
    refine lv_if_eq (tgt := 29) hx hb dX11_chance_17 (by decide) (fun c4 => ?_) (fun c4 => ?_)
    · have hf := (if_pos c4).symm.trans hf
      refine lv_ldc2 hx hb hown (hts (.constantLong RX11 120 (-1000000000000000002)) (List.mem_of_getElem? (i := 2) rfl)) dX11_chance_29 ?_
      exact k_lret (v := (-1000000000000000002 : Int64)) (u := u_th) hx hb hr hlocks hK hS eQ hf hP hD dX11_chance_32
    · have hf := (if_neg c4).symm.trans hf
      refine lv_iload_n hx hb dX11_chance_20 rfl (lv_at hl 3 rfl) ?_
      refine lv_iconst (v := 0) hx hb dX11_chance_21 (by decide) ?_
      refine lv_iconst (v := 1) hx hb dX11_chance_22 (by decide) ?_
      obtain ⟨z5, hz_z5, hf⟩ := o_bind hf
      refine k_calli (va_runS (As := [.int p3, .int (0 : Int32), .int (1 : Int32)]) (rest := []) ⟨hx, hb, hml, hown, hts⟩ (c_X11_in l D cI cZ  H.size p3 (0 : Int32) (1 : Int32) z5 hz_z5) (va_cwS 3 hts gX11_chance_X11_in rfl rfl rfl hd_X11_in ⟨Nat.le_of_ble_eq_true rfl, Nat.le_of_ble_eq_true rfl⟩) (k_preS hK hP hD hS hA hE [] (by decide) rfl) rfl rfl hl.1 rfl (lv_room (Nat.le_of_ble_eq_true rfl)) dX11_chance_23 ⟨Nat.zero_le _, Nat.zero_le _⟩) hP hD hS hA [] [none, none, none, none, none, none, none, none, none, none] 0 rfl (by decide) (by decide) rfl rfl (fun H locs hP hD hS => ?_)
      have hP : va_P D vwCl (ceM cI cZ th0 th1 th2 th3 th4 th5 th6 th7 th8 th9 u_th) H := hP
      have hD : va_D A (ceM cI cZ th0 th1 th2 th3 th4 th5 th6 th7 th8 th9 u_th) := hD
      refine lv_if_ne (tgt := 33) hx hb dX11_chance_26 (by decide) (fun c6 => ?_) (fun c6 => ?_)
      · have hf := (if_neg c6).symm.trans hf
        refine lv_lconst (v := 0) hx hb dX11_chance_33 (by decide) ?_
        refine lv_lstore (lv' := [(4, .long (0 : Int64)), (0, .ref th0), (1, .int p1), (2, .int p2), (3, .int p3)]) hx hb dX11_chance_34 hl (by decide) rfl (fun ls hl => ?_)
        refine lv_lconst (v := 1) hx hb dX11_chance_36 (by decide) ?_
        refine lv_lstore (lv' := [(6, .long (1 : Int64)), (4, .long (0 : Int64)), (0, .ref th0), (1, .int p1), (2, .int p2), (3, .int p3)]) hx hb dX11_chance_37 hl (by decide) rfl (fun ls hl => ?_)
        refine lv_iconst (v := 0) hx hb dX11_chance_39 (by decide) ?_
        refine lv_istore (lv' := [(8, .int (0 : Int32)), (6, .long (1 : Int64)), (4, .long (0 : Int64)), (0, .ref th0), (1, .int p1), (2, .int p2), (3, .int p3)]) hx hb dX11_chance_40 hl (by decide) rfl (fun ls hl => ?_)
        exact hL42 oF p1 p2 p3 (0 : Int64) (1 : Int64) (0 : Int32) u_th _ _ ls (lv_sub hl [3, 4, 5, 6, 2, 1, 0] rfl) hP hD hS hf
      · have hf := (if_pos c6).symm.trans hf
        refine lv_ldc2 hx hb hown (hts (.constantLong RX11 120 (-1000000000000000002)) (List.mem_of_getElem? (i := 2) rfl)) dX11_chance_29 ?_
        exact k_lret (v := (-1000000000000000002 : Int64)) (u := u_th) hx hb hr hlocks hK hS eQ hf hP hD dX11_chance_32
  · have hf := (if_pos c2).symm.trans hf
    refine lv_ldc2 hx hb hown (hts (.constantLong RX11 118 (-1000000000000000001)) (List.mem_of_getElem? (i := 1) rfl)) dX11_chance_7 ?_
    exact k_lret (v := (-1000000000000000001 : Int64)) (u := u_th) hx hb hr hlocks hK hS eQ hf hP hD dX11_chance_10
theorem hd_X11_year : yX11_year.cls ≠ "java/lang/invoke/MethodHandle" ∧ yX11_year.cls ≠ "java/lang/invoke/VarHandle" ∧ (parseMethodDescriptor yX11_year.desc).map (fun d => d.parameters.length) = some 3 := by decide +kernel
set_option maxHeartbeats 4000000 in
set_option maxRecDepth 100000 in
theorem c_X11_year (l : Launch) (D : va_G) (cI cZ : ClassId) (th0 : Nat) (th1 : Nat) (th2 : Nat) (th3 : Nat) (th4 : Nat) (th5 : Nat) (th6 : Nat) (th7 : Nat) (th8 : Nat) (th9 : Nat) (sz : Nat) (u_th : sM) (p1 : Int32) (p2 : Int32) (p3 : Int32) (z : Int32 × sM) (hf : f_X11_year u_th p1 p2 p3 = some z) : Met l yX11_year wsX11_year rmX11_year (va_Pc [.ref th0, .int p1, .int p2, .int p3] (wPr D cI cZ (ceM cI cZ th0 th1 th2 th3 th4 th5 th6 th7 th8 th9 u_th) sz)) (va_Qi (fun (r : Int32) (v : sM) => (r, v) = z) (fun (v : sM) t => wPo D cI cZ (va_A (ceM cI cZ th0 th1 th2 th3 th4 th5 th6 th7 th8 th9 u_th) sz) (ceM cI cZ th0 th1 th2 th3 th4 th5 th6 th7 th8 th9 v) t) (va_A (ceM cI cZ th0 th1 th2 th3 th4 th5 th6 th7 th8 th9 u_th) sz)) 0 0 (va_A (ceM cI cZ th0 th1 th2 th3 th4 th5 th6 th7 th8 th9 u_th) sz) := by
  refine k_enter (D := D) (cI := cI) (cZ := cZ) (wl := ceM cI cZ th0 th1 th2 th3 th4 th5 th6 th7 th8 th9 u_th) (sz := sz) (av := [.ref th0, .int p1, .int p2, .int p3]) (cc := cX11_year) (maxL := 8) (ret := (some .int)) (Qc := fun A => va_Qi (fun (r : Int32) (v : sM) => (r, v) = z) (fun (v : sM) t => wPo D cI cZ (A) (ceM cI cZ th0 th1 th2 th3 th4 th5 th6 th7 th8 th9 v) t) (A)) (by decide) rfl (Nat.le_of_ble_eq_true rfl) ?_
  intro p e s m below meth c ls A Q H locs eQ hx hb hr hml hts hown hlocks hK hP hD hS hA hE hl
  have hown : s.vm.findClass RX11 = some m.cls := hown
  have hl : lv_has ls 8 [(0, .ref th0), (1, .int p1), (2, .int p2), (3, .int p3)] := hl
  have hi_X11 : ∀ w ∈ wsX110, w ∈ wsX11_year := fun w h => List.mem_cons_of_mem _ (List.mem_append_right _ h)
  have hJ179 : ∀ (K_49 : Int32 → Int32 → Int32 → Int32 → Int32 → sM → Option (Int32 × sM)), (∀ (v2 : Int32) (v3 : Int32) (v4 : Int32) (v5 : Int32) (v6 : Int32) (u_th : sM) (H : Heap) (locs : List Loc) (ls : Array Slot), lv_has ls 8 [(0, .ref th0), (2, .int v2), (3, .int v3), (4, .int v4), (5, .int v5), (6, .int v6)] → va_P D vwCl (ceM cI cZ th0 th1 th2 th3 th4 th5 th6 th7 th8 th9 u_th) H → va_D A (ceM cI cZ th0 th1 th2 th3 th4 th5 th6 th7 th8 th9 u_th) → va_S A s.heap H locs → K_49 v2 v3 v4 v5 v6 u_th = some z → W p l e (headSpec wsX11_year rmX11_year).room s m ([.ref th0, .int p1, .int p2, .int p3] : List Value).toArray below meth c H locs 0 0 Q (F0 m 49 ls [])) → ∀ (v2 : Int32) (v3 : Int32) (v4 : Int32) (v5 : Int32) (v6 : Int32) (s1 : Int32) (u_th : sM) (H : Heap) (locs : List Loc) (ls : Array Slot), lv_has ls 8 [(0, .ref th0), (2, .int v2), (3, .int v3), (4, .int v4), (5, .int v5), (6, .int v6)] → va_P D vwCl (ceM cI cZ th0 th1 th2 th3 th4 th5 th6 th7 th8 th9 u_th) H → va_D A (ceM cI cZ th0 th1 th2 th3 th4 th5 th6 th7 th8 th9 u_th) → va_S A s.heap H locs → f_X11_year_J179 K_49 v2 v3 v4 v5 v6 s1 u_th = some z → W p l e (headSpec wsX11_year rmX11_year).room s m ([.ref th0, .int p1, .int p2, .int p3] : List Value).toArray below meth c H locs 0 0 Q (F0 m 179 ls [.int s1, .ref th0]) := by
    intro K_49 hK_49 v2 v3 v4 v5 v6 s1 u_th H locs ls hl hP hD hS hf
    rw [f_X11_year_J179] at hf
    refine va_put (D := D) (ci := 8) (v := .int s1) (ty := .int) (C := RX11) (T := TX11) (N := 17) hx hb hts hi_X11 tyX11 tyX11_ok nmX11 hown hK hP hD hS 0 rfl rfl 9 (by decide) (hts (.fieldLink RX11 60 "FairWheelModel" "foot" "I") (List.mem_of_getElem? (i := 3) rfl)) (fun _ h9 => h9) rfl (by decide +kernel) rfl rfl (Nat.le_of_ble_eq_true rfl) dX11_year_179 (fun H locs hP hD hS => ?_)
    have hP : va_P D vwCl (ceM cI cZ th0 th1 th2 th3 th4 th5 th6 th7 th8 th9 ((M_weight u_th), (M_sits u_th), (M_stones u_th), (M_at u_th), (M_drag u_th), (M_sights u_th), (M_sight u_th), (M_signs u_th), (M_pad u_th), s1, (M_turned u_th), (M_bothWays u_th), (M_now u_th), (M_heap u_th), (M_reason u_th), (M_image u_th), (M_isKept u_th))) H := hP
    have hD : va_D A (ceM cI cZ th0 th1 th2 th3 th4 th5 th6 th7 th8 th9 ((M_weight u_th), (M_sits u_th), (M_stones u_th), (M_at u_th), (M_drag u_th), (M_sights u_th), (M_sight u_th), (M_signs u_th), (M_pad u_th), s1, (M_turned u_th), (M_bothWays u_th), (M_now u_th), (M_heap u_th), (M_reason u_th), (M_image u_th), (M_isKept u_th))) := hD
    refine lv_aload_n hx hb dX11_year_182 rfl (lv_at hl 0 rfl) ?_
    obtain ⟨z18, hz_z18, hf⟩ := o_bind hf
    refine k_callv (va_runV (As := []) (rest := []) ⟨hx, hb, hml, hown, hts⟩ (c_X11_letGo l D cI cZ th0 th1 th2 th3 th4 th5 th6 th7 th8 th9 H.size ((M_weight u_th), (M_sits u_th), (M_stones u_th), (M_at u_th), (M_drag u_th), (M_sights u_th), (M_sight u_th), (M_signs u_th), (M_pad u_th), s1, (M_turned u_th), (M_bothWays u_th), (M_now u_th), (M_heap u_th), (M_reason u_th), (M_image u_th), (M_isKept u_th)) z18 hz_z18) (cwV 0 hts gX11_year_X11_letGo rfl rfl rfl ⟨rfl, hd_X11_letGo⟩ ⟨Nat.le_of_ble_eq_true rfl, Nat.le_of_ble_eq_true rfl⟩) (k_preV hK hP hD hS hA hE [0, 1, 2, 3, 4, 5, 6, 7, 8, 9] (by decide) rfl (ci := 8) rfl rfl) rfl rfl hl.1 rfl (lv_room (Nat.le_of_ble_eq_true rfl)) dX11_year_183 ⟨Nat.zero_le _, Nat.zero_le _⟩) hP hD hS hA [0, 1, 2, 3, 4, 5, 6, 7, 8, 9] [some 0, some 1, some 2, some 3, some 4, some 5, some 6, some 7, some 8, some 9] 10 rfl (by decide) (by decide) rfl rfl (fun H locs hP hD hS => ?_)
    have hP : va_P D vwCl (ceM cI cZ th0 th1 th2 th3 th4 th5 th6 th7 th8 th9 z18) H := hP
    have hD : va_D A (ceM cI cZ th0 th1 th2 th3 th4 th5 th6 th7 th8 th9 z18) := hD
    refine lv_iload hx hb dX11_year_186 (lv_at hl 4 rfl) ?_
    refine lv_aload_n hx hb dX11_year_188 rfl (lv_at hl 0 rfl) ?_
    refine va_get (D := D) (ci := 8) (v := .int (M_foot z18)) (C := RX11) (T := TX11) (N := 17) hx hb hts hi_X11 hown hK hP 0 rfl rfl 9 (by decide) (hts (.fieldLink RX11 60 "FairWheelModel" "foot" "I") (List.mem_of_getElem? (i := 3) rfl)) (fun _ h9 => h9) rfl dX11_year_189 ?_
    refine lv_iload_n hx hb dX11_year_192 rfl (lv_at hl 2 rfl) ?_
    refine lv_icmp_ne (tgt := 200) hx hb dX11_year_193 (by decide) (fun c19 => ?_) (fun c19 => ?_)
    · have hf := (if_neg c19).symm.trans hf
      refine lv_iconst (v := 0) hx hb dX11_year_200 (by decide) ?_
      refine lv_iadd hx hb dX11_year_201 ?_
      refine lv_istore (lv' := [(5, .int (v5 + (0 : Int32))), (0, .ref th0), (2, .int v2), (3, .int v3), (4, .int v4), (6, .int v6)]) hx hb dX11_year_202 hl (by decide) rfl (fun ls hl => ?_)
      refine lv_iinc (v := (v6 + (1 : Int32))) (lv' := [(6, .int (v6 + (1 : Int32))), (5, .int (v5 + (0 : Int32))), (0, .ref th0), (2, .int v2), (3, .int v3), (4, .int v4)]) hx hb dX11_year_204 hl (k := 5) rfl rfl (by decide) rfl (fun ls hl => ?_)
      refine lv_goto (tgt := 49) hx hb dX11_year_207 (by decide) ?_
      exact hK_49 v2 v3 v4 (v5 + (0 : Int32)) (v6 + (1 : Int32)) z18 _ _ ls (lv_sub hl [2, 3, 4, 5, 1, 0] rfl) hP hD hS hf
    · have hf := (if_pos c19).symm.trans hf
      refine lv_iconst (v := 1) hx hb dX11_year_196 (by decide) ?_
      refine lv_goto (tgt := 201) hx hb dX11_year_197 (by decide) ?_
      refine lv_iadd hx hb dX11_year_201 ?_
      refine lv_istore (lv' := [(5, .int (v5 + (1 : Int32))), (0, .ref th0), (2, .int v2), (3, .int v3), (4, .int v4), (6, .int v6)]) hx hb dX11_year_202 hl (by decide) rfl (fun ls hl => ?_)
      refine lv_iinc (v := (v6 + (1 : Int32))) (lv' := [(6, .int (v6 + (1 : Int32))), (5, .int (v5 + (1 : Int32))), (0, .ref th0), (2, .int v2), (3, .int v3), (4, .int v4)]) hx hb dX11_year_204 hl (k := 5) rfl rfl (by decide) rfl (fun ls hl => ?_)
      refine lv_goto (tgt := 49) hx hb dX11_year_207 (by decide) ?_
      exact hK_49 v2 v3 v4 (v5 + (1 : Int32)) (v6 + (1 : Int32)) z18 _ _ ls (lv_sub hl [2, 3, 4, 5, 1, 0] rfl) hP hD hS hf
  have hJ151 : ∀ (K_49 : Int32 → Int32 → Int32 → Int32 → Int32 → sM → Option (Int32 × sM)), (∀ (v2 : Int32) (v3 : Int32) (v4 : Int32) (v5 : Int32) (v6 : Int32) (u_th : sM) (H : Heap) (locs : List Loc) (ls : Array Slot), lv_has ls 8 [(0, .ref th0), (2, .int v2), (3, .int v3), (4, .int v4), (5, .int v5), (6, .int v6)] → va_P D vwCl (ceM cI cZ th0 th1 th2 th3 th4 th5 th6 th7 th8 th9 u_th) H → va_D A (ceM cI cZ th0 th1 th2 th3 th4 th5 th6 th7 th8 th9 u_th) → va_S A s.heap H locs → K_49 v2 v3 v4 v5 v6 u_th = some z → W p l e (headSpec wsX11_year rmX11_year).room s m ([.ref th0, .int p1, .int p2, .int p3] : List Value).toArray below meth c H locs 0 0 Q (F0 m 49 ls [])) → ∀ (v2 : Int32) (v3 : Int32) (v4 : Int32) (v5 : Int32) (v6 : Int32) (s1 : Int32) (s2 : Int32) (u_th : sM) (H : Heap) (locs : List Loc) (ls : Array Slot), lv_has ls 8 [(0, .ref th0), (2, .int v2), (3, .int v3), (4, .int v4), (5, .int v5), (6, .int v6)] → va_P D vwCl (ceM cI cZ th0 th1 th2 th3 th4 th5 th6 th7 th8 th9 u_th) H → va_D A (ceM cI cZ th0 th1 th2 th3 th4 th5 th6 th7 th8 th9 u_th) → va_S A s.heap H locs → f_X11_year_J151 K_49 v2 v3 v4 v5 v6 s1 s2 u_th = some z → W p l e (headSpec wsX11_year rmX11_year).room s m ([.ref th0, .int p1, .int p2, .int p3] : List Value).toArray below meth c H locs 0 0 Q (F0 m 151 ls [.int s2, .int s1, .ref th6]) := by
    intro K_49 hK_49 v2 v3 v4 v5 v6 s1 s2 u_th H locs ls hl hP hD hS hf
    rw [f_X11_year_J151] at hf
    by_cases c16 : s1 < 0 ∨ 8 ≤ s1.toNatClampNeg
    · have hf := (if_pos c16).symm.trans hf
      cases hf
    have hf := (if_neg c16).symm.trans hf
    refine va_iast hx hb hK hP hD hS 6 0 rfl rfl (show vp_in s1 8 from c16) dX11_year_151 (fun H locs hP hD hS => ?_)
    have hP : va_P D vwCl (ceM cI cZ th0 th1 th2 th3 th4 th5 th6 th7 th8 th9 ((M_weight u_th), (M_sits u_th), (M_stones u_th), (M_at u_th), (M_drag u_th), (M_sights u_th), (M_sight u_th), (M_signs u_th), (M_pad u_th), (M_foot u_th), (M_turned u_th), (M_bothWays u_th), (upd (M_now u_th) s1.toNatClampNeg s2), (M_heap u_th), (M_reason u_th), (M_image u_th), (M_isKept u_th))) H := hP
    have hD : va_D A (ceM cI cZ th0 th1 th2 th3 th4 th5 th6 th7 th8 th9 ((M_weight u_th), (M_sits u_th), (M_stones u_th), (M_at u_th), (M_drag u_th), (M_sights u_th), (M_sight u_th), (M_signs u_th), (M_pad u_th), (M_foot u_th), (M_turned u_th), (M_bothWays u_th), (upd (M_now u_th) s1.toNatClampNeg s2), (M_heap u_th), (M_reason u_th), (M_image u_th), (M_isKept u_th))) := hD
    refine lv_aload_n hx hb dX11_year_152 rfl (lv_at hl 0 rfl) ?_
    refine lv_iload hx hb dX11_year_153 (lv_at hl 3 rfl) ?_
    refine lv_bipush (v := 16) hx hb dX11_year_155 (by decide) ?_
    refine lv_idiv hx hb dX11_year_157 (by decide) ?_
    refine lv_iconst (v := 3) hx hb dX11_year_158 (by decide) ?_
    refine lv_irem hx hb dX11_year_159 (by decide) ?_
    refine lv_if_ne (tgt := 175) hx hb dX11_year_160 (by decide) (fun c17 => ?_) (fun c17 => ?_)
    · have hf := (if_neg c17).symm.trans hf
      refine lv_aload_n hx hb dX11_year_175 rfl (lv_at hl 0 rfl) ?_
      refine va_get (D := D) (ci := 8) (v := .int (M_foot u_th)) (C := RX11) (T := TX11) (N := 17) hx hb hts hi_X11 hown hK hP 0 rfl rfl 9 (by decide) (hts (.fieldLink RX11 60 "FairWheelModel" "foot" "I") (List.mem_of_getElem? (i := 3) rfl)) (fun _ h9 => h9) rfl dX11_year_176 ?_
      exact hJ179 K_49 hK_49 v2 v3 v4 v5 v6 (M_foot u_th) ((M_weight u_th), (M_sits u_th), (M_stones u_th), (M_at u_th), (M_drag u_th), (M_sights u_th), (M_sight u_th), (M_signs u_th), (M_pad u_th), (M_foot u_th), (M_turned u_th), (M_bothWays u_th), (upd (M_now u_th) s1.toNatClampNeg s2), (M_heap u_th), (M_reason u_th), (M_image u_th), (M_isKept u_th)) _ _ ls (lv_sub hl [0, 1, 2, 3, 4, 5] rfl) hP hD hS hf
    · have hf := (if_pos c17).symm.trans hf
      refine lv_aload_n hx hb dX11_year_163 rfl (lv_at hl 0 rfl) ?_
      refine va_get (D := D) (ci := 8) (v := .int (M_foot u_th)) (C := RX11) (T := TX11) (N := 17) hx hb hts hi_X11 hown hK hP 0 rfl rfl 9 (by decide) (hts (.fieldLink RX11 60 "FairWheelModel" "foot" "I") (List.mem_of_getElem? (i := 3) rfl)) (fun _ h9 => h9) rfl dX11_year_164 ?_
      refine lv_iconst (v := 1) hx hb dX11_year_167 (by decide) ?_
      refine lv_iadd hx hb dX11_year_168 ?_
      refine lv_bipush (v := 8) hx hb dX11_year_169 (by decide) ?_
      refine lv_irem hx hb dX11_year_171 (by decide) ?_
      refine lv_goto (tgt := 179) hx hb dX11_year_172 (by decide) ?_
      exact hJ179 K_49 hK_49 v2 v3 v4 v5 v6 (((M_foot u_th) + (1 : Int32)) - ((M_foot u_th) + (1 : Int32)) / (8 : Int32) * (8 : Int32)) ((M_weight u_th), (M_sits u_th), (M_stones u_th), (M_at u_th), (M_drag u_th), (M_sights u_th), (M_sight u_th), (M_signs u_th), (M_pad u_th), (M_foot u_th), (M_turned u_th), (M_bothWays u_th), (upd (M_now u_th) s1.toNatClampNeg s2), (M_heap u_th), (M_reason u_th), (M_image u_th), (M_isKept u_th)) _ _ ls (lv_sub hl [0, 1, 2, 3, 4, 5] rfl) hP hD hS hf
  have hJ142 : ∀ (K_49 : Int32 → Int32 → Int32 → Int32 → Int32 → sM → Option (Int32 × sM)), (∀ (v2 : Int32) (v3 : Int32) (v4 : Int32) (v5 : Int32) (v6 : Int32) (u_th : sM) (H : Heap) (locs : List Loc) (ls : Array Slot), lv_has ls 8 [(0, .ref th0), (2, .int v2), (3, .int v3), (4, .int v4), (5, .int v5), (6, .int v6)] → va_P D vwCl (ceM cI cZ th0 th1 th2 th3 th4 th5 th6 th7 th8 th9 u_th) H → va_D A (ceM cI cZ th0 th1 th2 th3 th4 th5 th6 th7 th8 th9 u_th) → va_S A s.heap H locs → K_49 v2 v3 v4 v5 v6 u_th = some z → W p l e (headSpec wsX11_year rmX11_year).room s m ([.ref th0, .int p1, .int p2, .int p3] : List Value).toArray below meth c H locs 0 0 Q (F0 m 49 ls [])) → ∀ (v2 : Int32) (v3 : Int32) (v4 : Int32) (v5 : Int32) (v6 : Int32) (s1 : Int32) (u_th : sM) (H : Heap) (locs : List Loc) (ls : Array Slot), lv_has ls 8 [(0, .ref th0), (2, .int v2), (3, .int v3), (4, .int v4), (5, .int v5), (6, .int v6)] → va_P D vwCl (ceM cI cZ th0 th1 th2 th3 th4 th5 th6 th7 th8 th9 u_th) H → va_D A (ceM cI cZ th0 th1 th2 th3 th4 th5 th6 th7 th8 th9 u_th) → va_S A s.heap H locs → f_X11_year_J142 K_49 v2 v3 v4 v5 v6 s1 u_th = some z → W p l e (headSpec wsX11_year rmX11_year).room s m ([.ref th0, .int p1, .int p2, .int p3] : List Value).toArray below meth c H locs 0 0 Q (F0 m 142 ls [.int s1, .ref th6]) := by
    intro K_49 hK_49 v2 v3 v4 v5 v6 s1 u_th H locs ls hl hP hD hS hf
    rw [f_X11_year_J142] at hf
    refine lv_aload_n hx hb dX11_year_142 rfl (lv_at hl 0 rfl) ?_
    refine va_get (D := D) (ci := 8) (v := .ref th6) (C := RX11) (T := TX11) (N := 17) hx hb hts hi_X11 hown hK hP 0 rfl rfl 12 (by decide) (hts (.fieldLink RX11 29 "FairWheelModel" "now" "[I") (List.mem_of_getElem? (i := 2) rfl)) (fun _ h9 => h9) rfl dX11_year_143 ?_
    refine lv_aload_n hx hb dX11_year_146 rfl (lv_at hl 0 rfl) ?_
    refine va_get (D := D) (ci := 8) (v := .int (M_foot u_th)) (C := RX11) (T := TX11) (N := 17) hx hb hts hi_X11 hown hK hP 0 rfl rfl 9 (by decide) (hts (.fieldLink RX11 60 "FairWheelModel" "foot" "I") (List.mem_of_getElem? (i := 3) rfl)) (fun _ h9 => h9) rfl dX11_year_147 ?_
    by_cases c15 : (M_foot u_th) < 0 ∨ 8 ≤ (M_foot u_th).toNatClampNeg
    · have hf := (if_pos c15).symm.trans hf
      cases hf
    have hf := (if_neg c15).symm.trans hf
    refine va_iald hx hb hK hP 6 0 rfl rfl (show vp_in (M_foot u_th) 8 from c15) dX11_year_150 ?_
    exact hJ151 K_49 hK_49 v2 v3 v4 v5 v6 s1 ((M_now u_th) (M_foot u_th).toNatClampNeg) u_th _ _ ls (lv_sub hl [0, 1, 2, 3, 4, 5] rfl) hP hD hS hf
  have hJ98 : ∀ (K_49 : Int32 → Int32 → Int32 → Int32 → Int32 → sM → Option (Int32 × sM)), (∀ (v2 : Int32) (v3 : Int32) (v4 : Int32) (v5 : Int32) (v6 : Int32) (u_th : sM) (H : Heap) (locs : List Loc) (ls : Array Slot), lv_has ls 8 [(0, .ref th0), (2, .int v2), (3, .int v3), (4, .int v4), (5, .int v5), (6, .int v6)] → va_P D vwCl (ceM cI cZ th0 th1 th2 th3 th4 th5 th6 th7 th8 th9 u_th) H → va_D A (ceM cI cZ th0 th1 th2 th3 th4 th5 th6 th7 th8 th9 u_th) → va_S A s.heap H locs → K_49 v2 v3 v4 v5 v6 u_th = some z → W p l e (headSpec wsX11_year rmX11_year).room s m ([.ref th0, .int p1, .int p2, .int p3] : List Value).toArray below meth c H locs 0 0 Q (F0 m 49 ls [])) → ∀ (v2 : Int32) (v3 : Int32) (v4 : Int32) (v5 : Int32) (v6 : Int32) (s1 : Int32) (s2 : Int32) (u_th : sM) (H : Heap) (locs : List Loc) (ls : Array Slot), lv_has ls 8 [(0, .ref th0), (2, .int v2), (3, .int v3), (4, .int v4), (5, .int v5), (6, .int v6)] → va_P D vwCl (ceM cI cZ th0 th1 th2 th3 th4 th5 th6 th7 th8 th9 u_th) H → va_D A (ceM cI cZ th0 th1 th2 th3 th4 th5 th6 th7 th8 th9 u_th) → va_S A s.heap H locs → f_X11_year_J98 K_49 v2 v3 v4 v5 v6 s1 s2 u_th = some z → W p l e (headSpec wsX11_year rmX11_year).room s m ([.ref th0, .int p1, .int p2, .int p3] : List Value).toArray below meth c H locs 0 0 Q (F0 m 98 ls [.int s2, .int s1, .ref th6]) := by
    intro K_49 hK_49 v2 v3 v4 v5 v6 s1 s2 u_th H locs ls hl hP hD hS hf
    rw [f_X11_year_J98] at hf
    by_cases c12 : s1 < 0 ∨ 8 ≤ s1.toNatClampNeg
    · have hf := (if_pos c12).symm.trans hf
      cases hf
    have hf := (if_neg c12).symm.trans hf
    refine va_iast hx hb hK hP hD hS 6 0 rfl rfl (show vp_in s1 8 from c12) dX11_year_98 (fun H locs hP hD hS => ?_)
    have hP : va_P D vwCl (ceM cI cZ th0 th1 th2 th3 th4 th5 th6 th7 th8 th9 ((M_weight u_th), (M_sits u_th), (M_stones u_th), (M_at u_th), (M_drag u_th), (M_sights u_th), (M_sight u_th), (M_signs u_th), (M_pad u_th), (M_foot u_th), (M_turned u_th), (M_bothWays u_th), (upd (M_now u_th) s1.toNatClampNeg s2), (M_heap u_th), (M_reason u_th), (M_image u_th), (M_isKept u_th))) H := hP
    have hD : va_D A (ceM cI cZ th0 th1 th2 th3 th4 th5 th6 th7 th8 th9 ((M_weight u_th), (M_sits u_th), (M_stones u_th), (M_at u_th), (M_drag u_th), (M_sights u_th), (M_sight u_th), (M_signs u_th), (M_pad u_th), (M_foot u_th), (M_turned u_th), (M_bothWays u_th), (upd (M_now u_th) s1.toNatClampNeg s2), (M_heap u_th), (M_reason u_th), (M_image u_th), (M_isKept u_th))) := hD
    refine lv_iload hx hb dX11_year_99 (lv_at hl 3 rfl) ?_
    refine lv_iconst (v := 2) hx hb dX11_year_101 (by decide) ?_
    refine lv_idiv hx hb dX11_year_102 (by decide) ?_
    refine lv_bipush (v := 8) hx hb dX11_year_103 (by decide) ?_
    refine lv_irem hx hb dX11_year_105 (by decide) ?_
    refine lv_istore (lv' := [(7, .int ((v4 / (2 : Int32)) - (v4 / (2 : Int32)) / (8 : Int32) * (8 : Int32))), (0, .ref th0), (2, .int v2), (3, .int v3), (4, .int v4), (5, .int v5), (6, .int v6)]) hx hb dX11_year_106 hl (by decide) rfl (fun ls hl => ?_)
    refine lv_aload_n hx hb dX11_year_108 rfl (lv_at hl 1 rfl) ?_
    refine va_get (D := D) (ci := 8) (v := .ref th6) (C := RX11) (T := TX11) (N := 17) hx hb hts hi_X11 hown hK hP 0 rfl rfl 12 (by decide) (hts (.fieldLink RX11 29 "FairWheelModel" "now" "[I") (List.mem_of_getElem? (i := 2) rfl)) (fun _ h9 => h9) rfl dX11_year_109 ?_
    refine lv_aload_n hx hb dX11_year_112 rfl (lv_at hl 1 rfl) ?_
    refine va_get (D := D) (ci := 8) (v := .int (M_foot u_th)) (C := RX11) (T := TX11) (N := 17) hx hb hts hi_X11 hown hK hP 0 rfl rfl 9 (by decide) (hts (.fieldLink RX11 60 "FairWheelModel" "foot" "I") (List.mem_of_getElem? (i := 3) rfl)) (fun _ h9 => h9) rfl dX11_year_113 ?_
    refine lv_aload_n hx hb dX11_year_116 rfl (lv_at hl 1 rfl) ?_
    refine va_get (D := D) (ci := 8) (v := .ref th6) (C := RX11) (T := TX11) (N := 17) hx hb hts hi_X11 hown hK hP 0 rfl rfl 12 (by decide) (hts (.fieldLink RX11 29 "FairWheelModel" "now" "[I") (List.mem_of_getElem? (i := 2) rfl)) (fun _ h9 => h9) rfl dX11_year_117 ?_
    refine lv_aload_n hx hb dX11_year_120 rfl (lv_at hl 1 rfl) ?_
    refine va_get (D := D) (ci := 8) (v := .int (M_foot u_th)) (C := RX11) (T := TX11) (N := 17) hx hb hts hi_X11 hown hK hP 0 rfl rfl 9 (by decide) (hts (.fieldLink RX11 60 "FairWheelModel" "foot" "I") (List.mem_of_getElem? (i := 3) rfl)) (fun _ h9 => h9) rfl dX11_year_121 ?_
    by_cases c13 : (M_foot u_th) < 0 ∨ 8 ≤ (M_foot u_th).toNatClampNeg
    · have hf := (if_pos c13).symm.trans hf
      cases hf
    have hf := (if_neg c13).symm.trans hf
    refine va_iald hx hb hK hP 6 0 rfl rfl (show vp_in (M_foot u_th) 8 from c13) dX11_year_124 ?_
    refine lv_if_ge (tgt := 142) hx hb dX11_year_125 (by decide) (fun c14 => ?_) (fun c14 => ?_)
    · have hf := (if_pos c14).symm.trans hf
      exact hJ142 K_49 hK_49 v2 v3 v4 v5 v6 (M_foot u_th) ((M_weight u_th), (M_sits u_th), (M_stones u_th), (M_at u_th), (M_drag u_th), (M_sights u_th), (M_sight u_th), (M_signs u_th), (M_pad u_th), (M_foot u_th), (M_turned u_th), (M_bothWays u_th), (upd (M_now u_th) s1.toNatClampNeg s2), (M_heap u_th), (M_reason u_th), (M_image u_th), (M_isKept u_th)) _ _ ls (lv_sub hl [1, 2, 3, 4, 5, 6] rfl) hP hD hS hf
    · have hf := (if_neg c14).symm.trans hf
      refine lv_aload_n hx hb dX11_year_128 rfl (lv_at hl 1 rfl) ?_
      refine lv_iload hx hb dX11_year_129 (lv_at hl 0 rfl) ?_
      obtain ⟨z20, hz_z20, hf⟩ := o_bind hf
      refine k_calli (va_runV (As := [.int ((v4 / (2 : Int32)) - (v4 / (2 : Int32)) / (8 : Int32) * (8 : Int32))]) (rest := [.int (M_foot u_th), .ref th6]) ⟨hx, hb, hml, hown, hts⟩ (c_X11_carOf l D cI cZ th0 th1 th2 th3 th4 th5 th6 th7 th8 th9 H.size ((M_weight u_th), (M_sits u_th), (M_stones u_th), (M_at u_th), (M_drag u_th), (M_sights u_th), (M_sight u_th), (M_signs u_th), (M_pad u_th), (M_foot u_th), (M_turned u_th), (M_bothWays u_th), (upd (M_now u_th) s1.toNatClampNeg s2), (M_heap u_th), (M_reason u_th), (M_image u_th), (M_isKept u_th)) ((v4 / (2 : Int32)) - (v4 / (2 : Int32)) / (8 : Int32) * (8 : Int32)) z20 hz_z20) (cwV 1 hts gX11_year_X11_carOf rfl rfl rfl ⟨rfl, hd_X11_carOf⟩ ⟨Nat.le_of_ble_eq_true rfl, Nat.le_of_ble_eq_true rfl⟩) (k_preV hK hP hD hS hA hE [0, 1, 2, 3, 4, 5, 6, 7, 8, 9] (by decide) rfl (ci := 8) rfl rfl) rfl rfl hl.1 rfl (lv_room (Nat.le_of_ble_eq_true rfl)) dX11_year_131 ⟨Nat.zero_le _, Nat.zero_le _⟩) hP hD hS hA [0, 1, 2, 3, 4, 5, 6, 7, 8, 9] [some 0, some 1, some 2, some 3, some 4, some 5, some 6, some 7, some 8, some 9] 10 rfl (by decide) (by decide) rfl rfl (fun H locs hP hD hS => ?_)
      have hP : va_P D vwCl (ceM cI cZ th0 th1 th2 th3 th4 th5 th6 th7 th8 th9 ((M_weight u_th), (M_sits u_th), (M_stones u_th), (M_at u_th), (M_drag u_th), (M_sights u_th), (M_sight u_th), (M_signs u_th), (M_pad u_th), (M_foot u_th), (M_turned u_th), (M_bothWays u_th), (upd (M_now u_th) s1.toNatClampNeg s2), (M_heap u_th), (M_reason u_th), (M_image u_th), (M_isKept u_th))) H := hP
      have hD : va_D A (ceM cI cZ th0 th1 th2 th3 th4 th5 th6 th7 th8 th9 ((M_weight u_th), (M_sits u_th), (M_stones u_th), (M_at u_th), (M_drag u_th), (M_sights u_th), (M_sight u_th), (M_signs u_th), (M_pad u_th), (M_foot u_th), (M_turned u_th), (M_bothWays u_th), (upd (M_now u_th) s1.toNatClampNeg s2), (M_heap u_th), (M_reason u_th), (M_image u_th), (M_isKept u_th))) := hD
      refine lv_if_ge (tgt := 142) hx hb dX11_year_134 (by decide) (fun c21 => ?_) (fun c21 => ?_)
      · have hf := (if_pos c21).symm.trans hf
        exact hJ142 K_49 hK_49 v2 v3 v4 v5 v6 (M_foot u_th) ((M_weight u_th), (M_sits u_th), (M_stones u_th), (M_at u_th), (M_drag u_th), (M_sights u_th), (M_sight u_th), (M_signs u_th), (M_pad u_th), (M_foot u_th), (M_turned u_th), (M_bothWays u_th), (upd (M_now u_th) s1.toNatClampNeg s2), (M_heap u_th), (M_reason u_th), (M_image u_th), (M_isKept u_th)) _ _ ls (lv_sub hl [1, 2, 3, 4, 5, 6] rfl) hP hD hS hf
      · have hf := (if_neg c21).symm.trans hf
        refine lv_iload hx hb dX11_year_137 (lv_at hl 0 rfl) ?_
        refine lv_goto (tgt := 151) hx hb dX11_year_139 (by decide) ?_
        exact hJ151 K_49 hK_49 v2 v3 v4 v5 v6 (M_foot u_th) ((v4 / (2 : Int32)) - (v4 / (2 : Int32)) / (8 : Int32) * (8 : Int32)) ((M_weight u_th), (M_sits u_th), (M_stones u_th), (M_at u_th), (M_drag u_th), (M_sights u_th), (M_sight u_th), (M_signs u_th), (M_pad u_th), (M_foot u_th), (M_turned u_th), (M_bothWays u_th), (upd (M_now u_th) s1.toNatClampNeg s2), (M_heap u_th), (M_reason u_th), (M_image u_th), (M_isKept u_th)) _ _ ls (lv_sub hl [1, 2, 3, 4, 5, 6] rfl) hP hD hS hf
  have hL49 : ∀ (n : Nat), ∀ (v2 : Int32) (v3 : Int32) (v4 : Int32) (v5 : Int32) (v6 : Int32) (u_th : sM) (H : Heap) (locs : List Loc) (ls : Array Slot), lv_has ls 8 [(0, .ref th0), (2, .int v2), (3, .int v3), (4, .int v4), (5, .int v5), (6, .int v6)] → va_P D vwCl (ceM cI cZ th0 th1 th2 th3 th4 th5 th6 th7 th8 th9 u_th) H → va_D A (ceM cI cZ th0 th1 th2 th3 th4 th5 th6 th7 th8 th9 u_th) → va_S A s.heap H locs → f_X11_year_L49 n v2 v3 v4 v5 v6 u_th = some z → W p l e (headSpec wsX11_year rmX11_year).room s m ([.ref th0, .int p1, .int p2, .int p3] : List Value).toArray below meth c H locs 0 0 Q (F0 m 49 ls []) := by
    intro n
    induction n with
    | zero =>
      intro v2 v3 v4 v5 v6 u_th H locs ls hl hP hD hS hf
      exact absurd (show (none : Option (Int32 × sM)) = some z from hf) (fun h => by cases h)
    | succ n ih =>
      intro v2 v3 v4 v5 v6 u_th H locs ls hl hP hD hS hf
      rw [f_X11_year_L49] at hf
      refine lv_iload hx hb dX11_year_49 (lv_at hl 5 rfl) ?_
      refine lv_iload_n hx hb dX11_year_51 rfl (lv_at hl 1 rfl) ?_
      refine lv_icmp_ge (tgt := 210) hx hb dX11_year_52 (by decide) (fun c8 => ?_) (fun c8 => ?_)
      · have hf := (if_pos c8).symm.trans hf
        refine lv_iload_n hx hb dX11_year_210 rfl (lv_at hl 2 rfl) ?_
        refine lv_if_ge (tgt := 221) hx hb dX11_year_211 (by decide) (fun c9 => ?_) (fun c9 => ?_)
        · have hf := (if_pos c9).symm.trans hf
          refine lv_iload hx hb dX11_year_221 (lv_at hl 4 rfl) ?_
          exact k_iret (v := v5) (u := u_th) hx hb hr hlocks hK hS eQ hf hP hD dX11_year_223
        · have hf := (if_neg c9).symm.trans hf
          refine lv_aload_n hx hb dX11_year_214 rfl (lv_at hl 0 rfl) ?_
          refine va_get (D := D) (ci := 8) (v := .int (M_bothWays u_th)) (C := RX11) (T := TX11) (N := 17) hx hb hts hi_X11 hown hK hP 0 rfl rfl 11 (by decide) (hts (.fieldLink RX11 66 "FairWheelModel" "bothWays" "I") (List.mem_of_getElem? (i := 4) rfl)) (fun _ h9 => h9) rfl dX11_year_215 ?_
          refine lv_goto (tgt := 223) hx hb dX11_year_218 (by decide) ?_
          exact k_iret (v := (M_bothWays u_th)) (u := u_th) hx hb hr hlocks hK hS eQ hf hP hD dX11_year_223
      · have hf := (if_neg c8).symm.trans hf
        refine lv_bipush (v := 75) hx hb dX11_year_55 (by decide) ?_
        refine lv_iload hx hb dX11_year_57 (lv_at hl 3 rfl) ?_
        refine lv_imul hx hb dX11_year_59 ?_
        refine lv_bipush (v := 74) hx hb dX11_year_60 (by decide) ?_
        refine lv_iadd hx hb dX11_year_62 ?_
        refine lv_ldc hx hb hown (hts (.constant RX11 127 (65537)) (List.mem_of_getElem? (i := 1) rfl)) dX11_year_63 ?_
        refine lv_irem hx hb dX11_year_65 (by decide) ?_
        refine lv_istore (lv' := [(4, .int ((((75 : Int32) * v4) + (74 : Int32)) - (((75 : Int32) * v4) + (74 : Int32)) / (65537 : Int32) * (65537 : Int32))), (0, .ref th0), (2, .int v2), (3, .int v3), (5, .int v5), (6, .int v6)]) hx hb dX11_year_66 hl (by decide) rfl (fun ls hl => ?_)
        refine lv_aload_n hx hb dX11_year_68 rfl (lv_at hl 1 rfl) ?_
        refine va_get (D := D) (ci := 8) (v := .ref th6) (C := RX11) (T := TX11) (N := 17) hx hb hts hi_X11 hown hK hP 0 rfl rfl 12 (by decide) (hts (.fieldLink RX11 29 "FairWheelModel" "now" "[I") (List.mem_of_getElem? (i := 2) rfl)) (fun _ h9 => h9) rfl dX11_year_69 ?_
        refine lv_aload_n hx hb dX11_year_72 rfl (lv_at hl 1 rfl) ?_
        refine va_get (D := D) (ci := 8) (v := .int (M_foot u_th)) (C := RX11) (T := TX11) (N := 17) hx hb hts hi_X11 hown hK hP 0 rfl rfl 9 (by decide) (hts (.fieldLink RX11 60 "FairWheelModel" "foot" "I") (List.mem_of_getElem? (i := 3) rfl)) (fun _ h9 => h9) rfl dX11_year_73 ?_
        refine lv_iload hx hb dX11_year_76 (lv_at hl 0 rfl) ?_
        refine lv_iconst (v := 2) hx hb dX11_year_78 (by decide) ?_
        refine lv_irem hx hb dX11_year_79 (by decide) ?_
        refine lv_iconst (v := 1) hx hb dX11_year_80 (by decide) ?_
        refine lv_icmp_ne (tgt := 89) hx hb dX11_year_81 (by decide) (fun c10 => ?_) (fun c10 => ?_)
        · have hf := (if_neg c10).symm.trans hf
          refine lv_aload_n hx hb dX11_year_89 rfl (lv_at hl 1 rfl) ?_
          refine va_get (D := D) (ci := 8) (v := .ref th6) (C := RX11) (T := TX11) (N := 17) hx hb hts hi_X11 hown hK hP 0 rfl rfl 12 (by decide) (hts (.fieldLink RX11 29 "FairWheelModel" "now" "[I") (List.mem_of_getElem? (i := 2) rfl)) (fun _ h9 => h9) rfl dX11_year_90 ?_
          refine lv_aload_n hx hb dX11_year_93 rfl (lv_at hl 1 rfl) ?_
          refine va_get (D := D) (ci := 8) (v := .int (M_foot u_th)) (C := RX11) (T := TX11) (N := 17) hx hb hts hi_X11 hown hK hP 0 rfl rfl 9 (by decide) (hts (.fieldLink RX11 60 "FairWheelModel" "foot" "I") (List.mem_of_getElem? (i := 3) rfl)) (fun _ h9 => h9) rfl dX11_year_94 ?_
          by_cases c11 : (M_foot u_th) < 0 ∨ 8 ≤ (M_foot u_th).toNatClampNeg
          · have hf := (if_pos c11).symm.trans hf
            cases hf
          have hf := (if_neg c11).symm.trans hf
          refine va_iald hx hb hK hP 6 0 rfl rfl (show vp_in (M_foot u_th) 8 from c11) dX11_year_97 ?_
          exact hJ98 (f_X11_year_L49 n) ih v2 v3 ((((75 : Int32) * v4) + (74 : Int32)) - (((75 : Int32) * v4) + (74 : Int32)) / (65537 : Int32) * (65537 : Int32)) v5 v6 (M_foot u_th) ((M_now u_th) (M_foot u_th).toNatClampNeg) u_th _ _ ls (lv_sub hl [1, 2, 3, 0, 4, 5] rfl) hP hD hS hf
        · have hf := (if_pos c10).symm.trans hf
          refine lv_bipush (v := -6) hx hb dX11_year_84 (by decide) ?_
          refine lv_goto (tgt := 98) hx hb dX11_year_86 (by decide) ?_
          exact hJ98 (f_X11_year_L49 n) ih v2 v3 ((((75 : Int32) * v4) + (74 : Int32)) - (((75 : Int32) * v4) + (74 : Int32)) / (65537 : Int32) * (65537 : Int32)) v5 v6 (M_foot u_th) (-6 : Int32) u_th _ _ ls (lv_sub hl [1, 2, 3, 0, 4, 5] rfl) hP hD hS hf
  rw [f_X11_year] at hf
  refine lv_iload_n hx hb dX11_year_0 rfl (lv_at hl 3 rfl) ?_
  refine lv_iconst (v := -1) hx hb dX11_year_1 (by decide) ?_
  refine lv_bipush (v := 7) hx hb dX11_year_2 (by decide) ?_
  obtain ⟨z1, hz_z1, hf⟩ := o_bind hf
  refine k_calli (va_runS (As := [.int p3, .int (-1 : Int32), .int (7 : Int32)]) (rest := []) ⟨hx, hb, hml, hown, hts⟩ (c_X11_in l D cI cZ  H.size p3 (-1 : Int32) (7 : Int32) z1 hz_z1) (va_cwS 3 hts gX11_year_X11_in rfl rfl rfl hd_X11_in ⟨Nat.le_of_ble_eq_true rfl, Nat.le_of_ble_eq_true rfl⟩) (k_preS hK hP hD hS hA hE [] (by decide) rfl) rfl rfl hl.1 rfl (lv_room (Nat.le_of_ble_eq_true rfl)) dX11_year_4 ⟨Nat.zero_le _, Nat.zero_le _⟩) hP hD hS hA [] [none, none, none, none, none, none, none, none, none, none] 0 rfl (by decide) (by decide) rfl rfl (fun H locs hP hD hS => ?_)
  have hP : va_P D vwCl (ceM cI cZ th0 th1 th2 th3 th4 th5 th6 th7 th8 th9 u_th) H := hP
  have hD : va_D A (ceM cI cZ th0 th1 th2 th3 th4 th5 th6 th7 th8 th9 u_th) := hD
  refine lv_if_ne (tgt := 12) hx hb dX11_year_7 (by decide) (fun c2 => ?_) (fun c2 => ?_)
  · have hf := (if_neg c2).symm.trans hf
    refine lv_iload_n hx hb dX11_year_12 rfl (lv_at hl 1 rfl) ?_
    refine lv_iconst (v := 0) hx hb dX11_year_13 (by decide) ?_
    refine lv_sipush (v := 9999) hx hb dX11_year_14 (by decide) ?_
    obtain ⟨z3, hz_z3, hf⟩ := o_bind hf
    refine k_calli (va_runS (As := [.int p1, .int (0 : Int32), .int (9999 : Int32)]) (rest := []) ⟨hx, hb, hml, hown, hts⟩ (c_X11_in l D cI cZ  H.size p1 (0 : Int32) (9999 : Int32) z3 hz_z3) (va_cwS 3 hts gX11_year_X11_in rfl rfl rfl hd_X11_in ⟨Nat.le_of_ble_eq_true rfl, Nat.le_of_ble_eq_true rfl⟩) (k_preS hK hP hD hS hA hE [] (by decide) rfl) rfl rfl hl.1 rfl (lv_room (Nat.le_of_ble_eq_true rfl)) dX11_year_17 ⟨Nat.zero_le _, Nat.zero_le _⟩) hP hD hS hA [] [none, none, none, none, none, none, none, none, none, none] 0 rfl (by decide) (by decide) rfl rfl (fun H locs hP hD hS => ?_)
    have hP : va_P D vwCl (ceM cI cZ th0 th1 th2 th3 th4 th5 th6 th7 th8 th9 u_th) H := hP
    have hD : va_D A (ceM cI cZ th0 th1 th2 th3 th4 th5 th6 th7 th8 th9 u_th) := hD
    refine lv_if_eq (tgt := 33) hx hb dX11_year_20 (by decide) (fun c4 => ?_) (fun c4 => ?_)
    · have hf := (if_pos c4).symm.trans hf
      refine lv_bipush (v := -2) hx hb dX11_year_33 (by decide) ?_
      exact k_iret (v := (-2 : Int32)) (u := u_th) hx hb hr hlocks hK hS eQ hf hP hD dX11_year_35
    · have hf := (if_neg c4).symm.trans hf
      refine lv_iload_n hx hb dX11_year_23 rfl (lv_at hl 2 rfl) ?_
      refine lv_iconst (v := 1) hx hb dX11_year_24 (by decide) ?_
      refine lv_bipush (v := 99) hx hb dX11_year_25 (by decide) ?_
      obtain ⟨z5, hz_z5, hf⟩ := o_bind hf
      refine k_calli (va_runS (As := [.int p2, .int (1 : Int32), .int (99 : Int32)]) (rest := []) ⟨hx, hb, hml, hown, hts⟩ (c_X11_in l D cI cZ  H.size p2 (1 : Int32) (99 : Int32) z5 hz_z5) (va_cwS 3 hts gX11_year_X11_in rfl rfl rfl hd_X11_in ⟨Nat.le_of_ble_eq_true rfl, Nat.le_of_ble_eq_true rfl⟩) (k_preS hK hP hD hS hA hE [] (by decide) rfl) rfl rfl hl.1 rfl (lv_room (Nat.le_of_ble_eq_true rfl)) dX11_year_27 ⟨Nat.zero_le _, Nat.zero_le _⟩) hP hD hS hA [] [none, none, none, none, none, none, none, none, none, none] 0 rfl (by decide) (by decide) rfl rfl (fun H locs hP hD hS => ?_)
      have hP : va_P D vwCl (ceM cI cZ th0 th1 th2 th3 th4 th5 th6 th7 th8 th9 u_th) H := hP
      have hD : va_D A (ceM cI cZ th0 th1 th2 th3 th4 th5 th6 th7 th8 th9 u_th) := hD
      refine lv_if_ne (tgt := 36) hx hb dX11_year_30 (by decide) (fun c6 => ?_) (fun c6 => ?_)
      · have hf := (if_neg c6).symm.trans hf
        refine lv_aload_n hx hb dX11_year_36 rfl (lv_at hl 0 rfl) ?_
        obtain ⟨z7, hz_z7, hf⟩ := o_bind hf
        refine k_callv (va_runV (As := []) (rest := []) ⟨hx, hb, hml, hown, hts⟩ (c_X11_asNow l D cI cZ th0 th1 th2 th3 th4 th5 th6 th7 th8 th9 H.size u_th z7 hz_z7) (cwV 0 hts gX11_year_X11_asNow rfl rfl rfl ⟨rfl, hd_X11_asNow⟩ ⟨Nat.le_of_ble_eq_true rfl, Nat.le_of_ble_eq_true rfl⟩) (k_preV hK hP hD hS hA hE [0, 1, 2, 3, 4, 5, 6, 7, 8, 9] (by decide) rfl (ci := 8) rfl rfl) rfl rfl hl.1 rfl (lv_room (Nat.le_of_ble_eq_true rfl)) dX11_year_37 ⟨Nat.zero_le _, Nat.zero_le _⟩) hP hD hS hA [0, 1, 2, 3, 4, 5, 6, 7, 8, 9] [some 0, some 1, some 2, some 3, some 4, some 5, some 6, some 7, some 8, some 9] 10 rfl (by decide) (by decide) rfl rfl (fun H locs hP hD hS => ?_)
        have hP : va_P D vwCl (ceM cI cZ th0 th1 th2 th3 th4 th5 th6 th7 th8 th9 z7) H := hP
        have hD : va_D A (ceM cI cZ th0 th1 th2 th3 th4 th5 th6 th7 th8 th9 z7) := hD
        refine lv_iload_n hx hb dX11_year_40 rfl (lv_at hl 1 rfl) ?_
        refine lv_istore (lv' := [(4, .int p1), (0, .ref th0), (1, .int p1), (2, .int p2), (3, .int p3)]) hx hb dX11_year_41 hl (by decide) rfl (fun ls hl => ?_)
        refine lv_iconst (v := 0) hx hb dX11_year_43 (by decide) ?_
        refine lv_istore (lv' := [(5, .int (0 : Int32)), (4, .int p1), (0, .ref th0), (1, .int p1), (2, .int p2), (3, .int p3)]) hx hb dX11_year_44 hl (by decide) rfl (fun ls hl => ?_)
        refine lv_iconst (v := 0) hx hb dX11_year_46 (by decide) ?_
        refine lv_istore (lv' := [(6, .int (0 : Int32)), (5, .int (0 : Int32)), (4, .int p1), (0, .ref th0), (1, .int p1), (2, .int p2), (3, .int p3)]) hx hb dX11_year_47 hl (by decide) rfl (fun ls hl => ?_)
        exact hL49 oF p2 p3 p1 (0 : Int32) (0 : Int32) z7 _ _ ls (lv_sub hl [3, 5, 6, 2, 1, 0] rfl) hP hD hS hf
      · have hf := (if_pos c6).symm.trans hf
        refine lv_bipush (v := -2) hx hb dX11_year_33 (by decide) ?_
        exact k_iret (v := (-2 : Int32)) (u := u_th) hx hb hr hlocks hK hS eQ hf hP hD dX11_year_35
  · have hf := (if_pos c2).symm.trans hf
    refine lv_iconst (v := -1) hx hb dX11_year_10 (by decide) ?_
    exact k_iret (v := (-1 : Int32)) (u := u_th) hx hb hr hlocks hK hS eQ hf hP hD dX11_year_11
theorem hd_X11_image : yX11_image.cls ≠ "java/lang/invoke/MethodHandle" ∧ yX11_image.cls ≠ "java/lang/invoke/VarHandle" ∧ (parseMethodDescriptor yX11_image.desc).map (fun d => d.parameters.length) = some 1 := by decide +kernel
set_option maxHeartbeats 4000000 in
set_option maxRecDepth 100000 in
theorem c_X11_image (l : Launch) (D : va_G) (cI cZ : ClassId) (th0 : Nat) (th1 : Nat) (th2 : Nat) (th3 : Nat) (th4 : Nat) (th5 : Nat) (th6 : Nat) (th7 : Nat) (th8 : Nat) (th9 : Nat) (sz : Nat) (u_th : sM) (p1 : Int32) (z : Int32 × sM) (hf : f_X11_image u_th p1 = some z) : Met l yX11_image wsX11_image rmX11_image (va_Pc [.ref th0, .int p1] (wPr D cI cZ (ceM cI cZ th0 th1 th2 th3 th4 th5 th6 th7 th8 th9 u_th) sz)) (va_Qi (fun (r : Int32) (v : sM) => (r, v) = z) (fun (v : sM) t => wPo D cI cZ (va_A (ceM cI cZ th0 th1 th2 th3 th4 th5 th6 th7 th8 th9 u_th) sz) (ceM cI cZ th0 th1 th2 th3 th4 th5 th6 th7 th8 th9 v) t) (va_A (ceM cI cZ th0 th1 th2 th3 th4 th5 th6 th7 th8 th9 u_th) sz)) 0 0 (va_A (ceM cI cZ th0 th1 th2 th3 th4 th5 th6 th7 th8 th9 u_th) sz) := by
  refine k_enter (D := D) (cI := cI) (cZ := cZ) (wl := ceM cI cZ th0 th1 th2 th3 th4 th5 th6 th7 th8 th9 u_th) (sz := sz) (av := [.ref th0, .int p1]) (cc := cX11_image) (maxL := 4) (ret := (some .int)) (Qc := fun A => va_Qi (fun (r : Int32) (v : sM) => (r, v) = z) (fun (v : sM) t => wPo D cI cZ (A) (ceM cI cZ th0 th1 th2 th3 th4 th5 th6 th7 th8 th9 v) t) (A)) (by decide) rfl (Nat.le_of_ble_eq_true rfl) ?_
  intro p e s m below meth c ls A Q H locs eQ hx hb hr hml hts hown hlocks hK hP hD hS hA hE hl
  have hown : s.vm.findClass RX11 = some m.cls := hown
  have hl : lv_has ls 4 [(0, .ref th0), (1, .int p1)] := hl
  have hi_X11 : ∀ w ∈ wsX110, w ∈ wsX11_image := fun w h => List.mem_cons_of_mem _ (List.mem_append_right _ h)
  have hL81 : ∀ (n : Nat), ∀ (v1 : Int32) (v2 : Int32) (v3 : Int32) (u_th : sM) (H : Heap) (locs : List Loc) (ls : Array Slot), lv_has ls 4 [(0, .ref th0), (1, .int v1), (2, .int v2), (3, .int v3)] → va_P D vwCl (ceM cI cZ th0 th1 th2 th3 th4 th5 th6 th7 th8 th9 u_th) H → va_D A (ceM cI cZ th0 th1 th2 th3 th4 th5 th6 th7 th8 th9 u_th) → va_S A s.heap H locs → f_X11_image_L81 n v1 v2 v3 u_th = some z → W p l e (headSpec wsX11_image rmX11_image).room s m ([.ref th0, .int p1] : List Value).toArray below meth c H locs 0 0 Q (F0 m 81 ls []) := by
    intro n
    induction n with
    | zero =>
      intro v1 v2 v3 u_th H locs ls hl hP hD hS hf
      exact absurd (show (none : Option (Int32 × sM)) = some z from hf) (fun h => by cases h)
    | succ n ih =>
      intro v1 v2 v3 u_th H locs ls hl hP hD hS hf
      rw [f_X11_image_L81] at hf
      refine lv_iload_n hx hb dX11_image_81 rfl (lv_at hl 3 rfl) ?_
      refine lv_bipush (v := 12) hx hb dX11_image_82 (by decide) ?_
      refine lv_icmp_ge (tgt := 110) hx hb dX11_image_84 (by decide) (fun c4 => ?_) (fun c4 => ?_)
      · have hf := (if_pos c4).symm.trans hf
        refine lv_aload_n hx hb dX11_image_110 rfl (lv_at hl 0 rfl) ?_
        refine va_get (D := D) (ci := 8) (v := .ref th8) (C := RX11) (T := TX11) (N := 17) hx hb hts hi_X11 hown hK hP 0 rfl rfl 15 (by decide) (hts (.fieldLink RX11 35 "FairWheelModel" "image" "[I") (List.mem_of_getElem? (i := 1) rfl)) (fun _ h9 => h9) rfl dX11_image_111 ?_
        refine lv_iload_n hx hb dX11_image_114 rfl (lv_at hl 2 rfl) ?_
        refine lv_bipush (v := 36) hx hb dX11_image_115 (by decide) ?_
        refine lv_iadd hx hb dX11_image_117 ?_
        refine lv_aload_n hx hb dX11_image_118 rfl (lv_at hl 0 rfl) ?_
        refine va_get (D := D) (ci := 8) (v := .int (M_at u_th)) (C := RX11) (T := TX11) (N := 17) hx hb hts hi_X11 hown hK hP 0 rfl rfl 3 (by decide) (hts (.fieldLink RX11 57 "FairWheelModel" "at" "I") (List.mem_of_getElem? (i := 6) rfl)) (fun _ h9 => h9) rfl dX11_image_119 ?_
        by_cases c5 : (v2 + (36 : Int32)) < 0 ∨ 80 ≤ (v2 + (36 : Int32)).toNatClampNeg
        · have hf := (if_pos c5).symm.trans hf
          cases hf
        have hf := (if_neg c5).symm.trans hf
        refine va_iast hx hb hK hP hD hS 8 0 rfl rfl (show vp_in (v2 + (36 : Int32)) 80 from c5) dX11_image_122 (fun H locs hP hD hS => ?_)
        have hP : va_P D vwCl (ceM cI cZ th0 th1 th2 th3 th4 th5 th6 th7 th8 th9 ((M_weight u_th), (M_sits u_th), (M_stones u_th), (M_at u_th), (M_drag u_th), (M_sights u_th), (M_sight u_th), (M_signs u_th), (M_pad u_th), (M_foot u_th), (M_turned u_th), (M_bothWays u_th), (M_now u_th), (M_heap u_th), (M_reason u_th), (upd (M_image u_th) (v2 + (36 : Int32)).toNatClampNeg (M_at u_th)), (M_isKept u_th))) H := hP
        have hD : va_D A (ceM cI cZ th0 th1 th2 th3 th4 th5 th6 th7 th8 th9 ((M_weight u_th), (M_sits u_th), (M_stones u_th), (M_at u_th), (M_drag u_th), (M_sights u_th), (M_sight u_th), (M_signs u_th), (M_pad u_th), (M_foot u_th), (M_turned u_th), (M_bothWays u_th), (M_now u_th), (M_heap u_th), (M_reason u_th), (upd (M_image u_th) (v2 + (36 : Int32)).toNatClampNeg (M_at u_th)), (M_isKept u_th))) := hD
        refine lv_aload_n hx hb dX11_image_123 rfl (lv_at hl 0 rfl) ?_
        refine va_get (D := D) (ci := 8) (v := .ref th8) (C := RX11) (T := TX11) (N := 17) hx hb hts hi_X11 hown hK hP 0 rfl rfl 15 (by decide) (hts (.fieldLink RX11 35 "FairWheelModel" "image" "[I") (List.mem_of_getElem? (i := 1) rfl)) (fun _ h9 => h9) rfl dX11_image_124 ?_
        refine lv_iload_n hx hb dX11_image_127 rfl (lv_at hl 2 rfl) ?_
        refine lv_bipush (v := 37) hx hb dX11_image_128 (by decide) ?_
        refine lv_iadd hx hb dX11_image_130 ?_
        refine lv_aload_n hx hb dX11_image_131 rfl (lv_at hl 0 rfl) ?_
        refine va_get (D := D) (ci := 8) (v := .int (M_drag u_th)) (C := RX11) (T := TX11) (N := 17) hx hb hts hi_X11 hown hK hP 0 rfl rfl 4 (by decide) (hts (.fieldLink RX11 19 "FairWheelModel" "drag" "I") (List.mem_of_getElem? (i := 7) rfl)) (fun _ h9 => h9) rfl dX11_image_132 ?_
        by_cases c6 : (v2 + (37 : Int32)) < 0 ∨ 80 ≤ (v2 + (37 : Int32)).toNatClampNeg
        · have hf := (if_pos c6).symm.trans hf
          cases hf
        have hf := (if_neg c6).symm.trans hf
        refine va_iast hx hb hK hP hD hS 8 0 rfl rfl (show vp_in (v2 + (37 : Int32)) 80 from c6) dX11_image_135 (fun H locs hP hD hS => ?_)
        have hP : va_P D vwCl (ceM cI cZ th0 th1 th2 th3 th4 th5 th6 th7 th8 th9 ((M_weight u_th), (M_sits u_th), (M_stones u_th), (M_at u_th), (M_drag u_th), (M_sights u_th), (M_sight u_th), (M_signs u_th), (M_pad u_th), (M_foot u_th), (M_turned u_th), (M_bothWays u_th), (M_now u_th), (M_heap u_th), (M_reason u_th), (upd (upd (M_image u_th) (v2 + (36 : Int32)).toNatClampNeg (M_at u_th)) (v2 + (37 : Int32)).toNatClampNeg (M_drag u_th)), (M_isKept u_th))) H := hP
        have hD : va_D A (ceM cI cZ th0 th1 th2 th3 th4 th5 th6 th7 th8 th9 ((M_weight u_th), (M_sits u_th), (M_stones u_th), (M_at u_th), (M_drag u_th), (M_sights u_th), (M_sight u_th), (M_signs u_th), (M_pad u_th), (M_foot u_th), (M_turned u_th), (M_bothWays u_th), (M_now u_th), (M_heap u_th), (M_reason u_th), (upd (upd (M_image u_th) (v2 + (36 : Int32)).toNatClampNeg (M_at u_th)) (v2 + (37 : Int32)).toNatClampNeg (M_drag u_th)), (M_isKept u_th))) := hD
        refine lv_aload_n hx hb dX11_image_136 rfl (lv_at hl 0 rfl) ?_
        refine va_get (D := D) (ci := 8) (v := .ref th8) (C := RX11) (T := TX11) (N := 17) hx hb hts hi_X11 hown hK hP 0 rfl rfl 15 (by decide) (hts (.fieldLink RX11 35 "FairWheelModel" "image" "[I") (List.mem_of_getElem? (i := 1) rfl)) (fun _ h9 => h9) rfl dX11_image_137 ?_
        refine lv_iload_n hx hb dX11_image_140 rfl (lv_at hl 2 rfl) ?_
        refine lv_bipush (v := 38) hx hb dX11_image_141 (by decide) ?_
        refine lv_iadd hx hb dX11_image_143 ?_
        refine lv_aload_n hx hb dX11_image_144 rfl (lv_at hl 0 rfl) ?_
        refine va_get (D := D) (ci := 8) (v := .int (M_sights u_th)) (C := RX11) (T := TX11) (N := 17) hx hb hts hi_X11 hown hK hP 0 rfl rfl 5 (by decide) (hts (.fieldLink RX11 115 "FairWheelModel" "sights" "I") (List.mem_of_getElem? (i := 8) rfl)) (fun _ h9 => h9) rfl dX11_image_145 ?_
        by_cases c7 : (v2 + (38 : Int32)) < 0 ∨ 80 ≤ (v2 + (38 : Int32)).toNatClampNeg
        · have hf := (if_pos c7).symm.trans hf
          cases hf
        have hf := (if_neg c7).symm.trans hf
        refine va_iast hx hb hK hP hD hS 8 0 rfl rfl (show vp_in (v2 + (38 : Int32)) 80 from c7) dX11_image_148 (fun H locs hP hD hS => ?_)
        have hP : va_P D vwCl (ceM cI cZ th0 th1 th2 th3 th4 th5 th6 th7 th8 th9 ((M_weight u_th), (M_sits u_th), (M_stones u_th), (M_at u_th), (M_drag u_th), (M_sights u_th), (M_sight u_th), (M_signs u_th), (M_pad u_th), (M_foot u_th), (M_turned u_th), (M_bothWays u_th), (M_now u_th), (M_heap u_th), (M_reason u_th), (upd (upd (upd (M_image u_th) (v2 + (36 : Int32)).toNatClampNeg (M_at u_th)) (v2 + (37 : Int32)).toNatClampNeg (M_drag u_th)) (v2 + (38 : Int32)).toNatClampNeg (M_sights u_th)), (M_isKept u_th))) H := hP
        have hD : va_D A (ceM cI cZ th0 th1 th2 th3 th4 th5 th6 th7 th8 th9 ((M_weight u_th), (M_sits u_th), (M_stones u_th), (M_at u_th), (M_drag u_th), (M_sights u_th), (M_sight u_th), (M_signs u_th), (M_pad u_th), (M_foot u_th), (M_turned u_th), (M_bothWays u_th), (M_now u_th), (M_heap u_th), (M_reason u_th), (upd (upd (upd (M_image u_th) (v2 + (36 : Int32)).toNatClampNeg (M_at u_th)) (v2 + (37 : Int32)).toNatClampNeg (M_drag u_th)) (v2 + (38 : Int32)).toNatClampNeg (M_sights u_th)), (M_isKept u_th))) := hD
        refine lv_aload_n hx hb dX11_image_149 rfl (lv_at hl 0 rfl) ?_
        refine va_get (D := D) (ci := 8) (v := .ref th9) (C := RX11) (T := TX11) (N := 17) hx hb hts hi_X11 hown hK hP 0 rfl rfl 16 (by decide) (hts (.fieldLink RX11 38 "FairWheelModel" "isKept" "[Z") (List.mem_of_getElem? (i := 9) rfl)) (fun _ h9 => h9) rfl dX11_image_150 ?_
        refine lv_iload_n hx hb dX11_image_153 rfl (lv_at hl 1 rfl) ?_
        refine lv_iconst (v := 1) hx hb dX11_image_154 (by decide) ?_
        by_cases c8 : v1 < 0 ∨ 2 ≤ v1.toNatClampNeg
        · have hf := (if_pos c8).symm.trans hf
          cases hf
        have hf := (if_neg c8).symm.trans hf
        refine va_zast hx hb hK hP hD hS 9 1 rfl rfl (show vp_in v1 2 from c8) dX11_image_155 (fun H locs hP hD hS => ?_)
        have hP : va_P D vwCl (ceM cI cZ th0 th1 th2 th3 th4 th5 th6 th7 th8 th9 ((M_weight u_th), (M_sits u_th), (M_stones u_th), (M_at u_th), (M_drag u_th), (M_sights u_th), (M_sight u_th), (M_signs u_th), (M_pad u_th), (M_foot u_th), (M_turned u_th), (M_bothWays u_th), (M_now u_th), (M_heap u_th), (M_reason u_th), (upd (upd (upd (M_image u_th) (v2 + (36 : Int32)).toNatClampNeg (M_at u_th)) (v2 + (37 : Int32)).toNatClampNeg (M_drag u_th)) (v2 + (38 : Int32)).toNatClampNeg (M_sights u_th)), (upd (M_isKept u_th) v1.toNatClampNeg (1 : Int32)))) H := hP
        have hD : va_D A (ceM cI cZ th0 th1 th2 th3 th4 th5 th6 th7 th8 th9 ((M_weight u_th), (M_sits u_th), (M_stones u_th), (M_at u_th), (M_drag u_th), (M_sights u_th), (M_sight u_th), (M_signs u_th), (M_pad u_th), (M_foot u_th), (M_turned u_th), (M_bothWays u_th), (M_now u_th), (M_heap u_th), (M_reason u_th), (upd (upd (upd (M_image u_th) (v2 + (36 : Int32)).toNatClampNeg (M_at u_th)) (v2 + (37 : Int32)).toNatClampNeg (M_drag u_th)) (v2 + (38 : Int32)).toNatClampNeg (M_sights u_th)), (upd (M_isKept u_th) v1.toNatClampNeg (1 : Int32)))) := hD
        refine lv_iconst (v := 1) hx hb dX11_image_156 (by decide) ?_
        exact k_iret (v := (1 : Int32)) (u := ((M_weight u_th), (M_sits u_th), (M_stones u_th), (M_at u_th), (M_drag u_th), (M_sights u_th), (M_sight u_th), (M_signs u_th), (M_pad u_th), (M_foot u_th), (M_turned u_th), (M_bothWays u_th), (M_now u_th), (M_heap u_th), (M_reason u_th), (upd (upd (upd (M_image u_th) (v2 + (36 : Int32)).toNatClampNeg (M_at u_th)) (v2 + (37 : Int32)).toNatClampNeg (M_drag u_th)) (v2 + (38 : Int32)).toNatClampNeg (M_sights u_th)), (upd (M_isKept u_th) v1.toNatClampNeg (1 : Int32)))) hx hb hr hlocks hK hS eQ hf hP hD dX11_image_157
      · have hf := (if_neg c4).symm.trans hf
        refine lv_aload_n hx hb dX11_image_87 rfl (lv_at hl 0 rfl) ?_
        refine va_get (D := D) (ci := 8) (v := .ref th8) (C := RX11) (T := TX11) (N := 17) hx hb hts hi_X11 hown hK hP 0 rfl rfl 15 (by decide) (hts (.fieldLink RX11 35 "FairWheelModel" "image" "[I") (List.mem_of_getElem? (i := 1) rfl)) (fun _ h9 => h9) rfl dX11_image_88 ?_
        refine lv_iload_n hx hb dX11_image_91 rfl (lv_at hl 2 rfl) ?_
        refine lv_bipush (v := 24) hx hb dX11_image_92 (by decide) ?_
        refine lv_iadd hx hb dX11_image_94 ?_
        refine lv_iload_n hx hb dX11_image_95 rfl (lv_at hl 3 rfl) ?_
        refine lv_iadd hx hb dX11_image_96 ?_
        refine lv_aload_n hx hb dX11_image_97 rfl (lv_at hl 0 rfl) ?_
        refine va_get (D := D) (ci := 8) (v := .ref th4) (C := RX11) (T := TX11) (N := 17) hx hb hts hi_X11 hown hK hP 0 rfl rfl 6 (by decide) (hts (.fieldLink RX11 23 "FairWheelModel" "sight" "[I") (List.mem_of_getElem? (i := 5) rfl)) (fun _ h9 => h9) rfl dX11_image_98 ?_
        refine lv_iload_n hx hb dX11_image_101 rfl (lv_at hl 3 rfl) ?_
        by_cases c9 : v3 < 0 ∨ 12 ≤ v3.toNatClampNeg
        · have hf := (if_pos c9).symm.trans hf
          cases hf
        have hf := (if_neg c9).symm.trans hf
        refine va_iald hx hb hK hP 4 0 rfl rfl (show vp_in v3 12 from c9) dX11_image_102 ?_
        by_cases c10 : ((v2 + (24 : Int32)) + v3) < 0 ∨ 80 ≤ ((v2 + (24 : Int32)) + v3).toNatClampNeg
        · have hf := (if_pos c10).symm.trans hf
          cases hf
        have hf := (if_neg c10).symm.trans hf
        refine va_iast hx hb hK hP hD hS 8 0 rfl rfl (show vp_in ((v2 + (24 : Int32)) + v3) 80 from c10) dX11_image_103 (fun H locs hP hD hS => ?_)
        have hP : va_P D vwCl (ceM cI cZ th0 th1 th2 th3 th4 th5 th6 th7 th8 th9 ((M_weight u_th), (M_sits u_th), (M_stones u_th), (M_at u_th), (M_drag u_th), (M_sights u_th), (M_sight u_th), (M_signs u_th), (M_pad u_th), (M_foot u_th), (M_turned u_th), (M_bothWays u_th), (M_now u_th), (M_heap u_th), (M_reason u_th), (upd (M_image u_th) ((v2 + (24 : Int32)) + v3).toNatClampNeg ((M_sight u_th) v3.toNatClampNeg)), (M_isKept u_th))) H := hP
        have hD : va_D A (ceM cI cZ th0 th1 th2 th3 th4 th5 th6 th7 th8 th9 ((M_weight u_th), (M_sits u_th), (M_stones u_th), (M_at u_th), (M_drag u_th), (M_sights u_th), (M_sight u_th), (M_signs u_th), (M_pad u_th), (M_foot u_th), (M_turned u_th), (M_bothWays u_th), (M_now u_th), (M_heap u_th), (M_reason u_th), (upd (M_image u_th) ((v2 + (24 : Int32)) + v3).toNatClampNeg ((M_sight u_th) v3.toNatClampNeg)), (M_isKept u_th))) := hD
        refine lv_iinc (v := (v3 + (1 : Int32))) (lv' := [(3, .int (v3 + (1 : Int32))), (0, .ref th0), (1, .int v1), (2, .int v2)]) hx hb dX11_image_104 hl (k := 3) rfl rfl (by decide) rfl (fun ls hl => ?_)
        refine lv_goto (tgt := 81) hx hb dX11_image_107 (by decide) ?_
        exact ih v1 v2 (v3 + (1 : Int32)) ((M_weight u_th), (M_sits u_th), (M_stones u_th), (M_at u_th), (M_drag u_th), (M_sights u_th), (M_sight u_th), (M_signs u_th), (M_pad u_th), (M_foot u_th), (M_turned u_th), (M_bothWays u_th), (M_now u_th), (M_heap u_th), (M_reason u_th), (upd (M_image u_th) ((v2 + (24 : Int32)) + v3).toNatClampNeg ((M_sight u_th) v3.toNatClampNeg)), (M_isKept u_th)) _ _ ls (lv_sub hl [1, 2, 3, 0] rfl) hP hD hS hf
  have hL19 : ∀ (n : Nat), ∀ (v1 : Int32) (v2 : Int32) (v3 : Int32) (u_th : sM) (H : Heap) (locs : List Loc) (ls : Array Slot), lv_has ls 4 [(0, .ref th0), (1, .int v1), (2, .int v2), (3, .int v3)] → va_P D vwCl (ceM cI cZ th0 th1 th2 th3 th4 th5 th6 th7 th8 th9 u_th) H → va_D A (ceM cI cZ th0 th1 th2 th3 th4 th5 th6 th7 th8 th9 u_th) → va_S A s.heap H locs → f_X11_image_L19 n v1 v2 v3 u_th = some z → W p l e (headSpec wsX11_image rmX11_image).room s m ([.ref th0, .int p1] : List Value).toArray below meth c H locs 0 0 Q (F0 m 19 ls []) := by
    intro n
    induction n with
    | zero =>
      intro v1 v2 v3 u_th H locs ls hl hP hD hS hf
      exact absurd (show (none : Option (Int32 × sM)) = some z from hf) (fun h => by cases h)
    | succ n ih =>
      intro v1 v2 v3 u_th H locs ls hl hP hD hS hf
      rw [f_X11_image_L19] at hf
      refine lv_iload_n hx hb dX11_image_19 rfl (lv_at hl 3 rfl) ?_
      refine lv_bipush (v := 8) hx hb dX11_image_20 (by decide) ?_
      refine lv_icmp_ge (tgt := 79) hx hb dX11_image_22 (by decide) (fun c3 => ?_) (fun c3 => ?_)
      · have hf := (if_pos c3).symm.trans hf
        refine lv_iconst (v := 0) hx hb dX11_image_79 (by decide) ?_
        refine lv_istore_n (lv' := [(3, .int (0 : Int32)), (0, .ref th0), (1, .int v1), (2, .int v2)]) hx hb dX11_image_80 rfl hl (by decide) rfl (fun ls hl => ?_)
        exact hL81 oF v1 v2 (0 : Int32) u_th _ _ ls (lv_sub hl [1, 2, 3, 0] rfl) hP hD hS hf
      · have hf := (if_neg c3).symm.trans hf
        refine lv_aload_n hx hb dX11_image_25 rfl (lv_at hl 0 rfl) ?_
        refine va_get (D := D) (ci := 8) (v := .ref th8) (C := RX11) (T := TX11) (N := 17) hx hb hts hi_X11 hown hK hP 0 rfl rfl 15 (by decide) (hts (.fieldLink RX11 35 "FairWheelModel" "image" "[I") (List.mem_of_getElem? (i := 1) rfl)) (fun _ h9 => h9) rfl dX11_image_26 ?_
        refine lv_iload_n hx hb dX11_image_29 rfl (lv_at hl 2 rfl) ?_
        refine lv_iload_n hx hb dX11_image_30 rfl (lv_at hl 3 rfl) ?_
        refine lv_iadd hx hb dX11_image_31 ?_
        refine lv_aload_n hx hb dX11_image_32 rfl (lv_at hl 0 rfl) ?_
        refine va_get (D := D) (ci := 8) (v := .ref th1) (C := RX11) (T := TX11) (N := 17) hx hb hts hi_X11 hown hK hP 0 rfl rfl 0 (by decide) (hts (.fieldLink RX11 7 "FairWheelModel" "weight" "[I") (List.mem_of_getElem? (i := 2) rfl)) (fun _ h9 => h9) rfl dX11_image_33 ?_
        refine lv_iload_n hx hb dX11_image_36 rfl (lv_at hl 3 rfl) ?_
        by_cases c11 : v3 < 0 ∨ 8 ≤ v3.toNatClampNeg
        · have hf := (if_pos c11).symm.trans hf
          cases hf
        have hf := (if_neg c11).symm.trans hf
        refine va_iald hx hb hK hP 1 0 rfl rfl (show vp_in v3 8 from c11) dX11_image_37 ?_
        by_cases c12 : (v2 + v3) < 0 ∨ 80 ≤ (v2 + v3).toNatClampNeg
        · have hf := (if_pos c12).symm.trans hf
          cases hf
        have hf := (if_neg c12).symm.trans hf
        refine va_iast hx hb hK hP hD hS 8 0 rfl rfl (show vp_in (v2 + v3) 80 from c12) dX11_image_38 (fun H locs hP hD hS => ?_)
        have hP : va_P D vwCl (ceM cI cZ th0 th1 th2 th3 th4 th5 th6 th7 th8 th9 ((M_weight u_th), (M_sits u_th), (M_stones u_th), (M_at u_th), (M_drag u_th), (M_sights u_th), (M_sight u_th), (M_signs u_th), (M_pad u_th), (M_foot u_th), (M_turned u_th), (M_bothWays u_th), (M_now u_th), (M_heap u_th), (M_reason u_th), (upd (M_image u_th) (v2 + v3).toNatClampNeg ((M_weight u_th) v3.toNatClampNeg)), (M_isKept u_th))) H := hP
        have hD : va_D A (ceM cI cZ th0 th1 th2 th3 th4 th5 th6 th7 th8 th9 ((M_weight u_th), (M_sits u_th), (M_stones u_th), (M_at u_th), (M_drag u_th), (M_sights u_th), (M_sight u_th), (M_signs u_th), (M_pad u_th), (M_foot u_th), (M_turned u_th), (M_bothWays u_th), (M_now u_th), (M_heap u_th), (M_reason u_th), (upd (M_image u_th) (v2 + v3).toNatClampNeg ((M_weight u_th) v3.toNatClampNeg)), (M_isKept u_th))) := hD
        refine lv_aload_n hx hb dX11_image_39 rfl (lv_at hl 0 rfl) ?_
        refine va_get (D := D) (ci := 8) (v := .ref th8) (C := RX11) (T := TX11) (N := 17) hx hb hts hi_X11 hown hK hP 0 rfl rfl 15 (by decide) (hts (.fieldLink RX11 35 "FairWheelModel" "image" "[I") (List.mem_of_getElem? (i := 1) rfl)) (fun _ h9 => h9) rfl dX11_image_40 ?_
        refine lv_iload_n hx hb dX11_image_43 rfl (lv_at hl 2 rfl) ?_
        refine lv_bipush (v := 8) hx hb dX11_image_44 (by decide) ?_
        refine lv_iadd hx hb dX11_image_46 ?_
        refine lv_iload_n hx hb dX11_image_47 rfl (lv_at hl 3 rfl) ?_
        refine lv_iadd hx hb dX11_image_48 ?_
        refine lv_aload_n hx hb dX11_image_49 rfl (lv_at hl 0 rfl) ?_
        refine va_get (D := D) (ci := 8) (v := .ref th2) (C := RX11) (T := TX11) (N := 17) hx hb hts hi_X11 hown hK hP 0 rfl rfl 1 (by decide) (hts (.fieldLink RX11 13 "FairWheelModel" "sits" "[I") (List.mem_of_getElem? (i := 3) rfl)) (fun _ h9 => h9) rfl dX11_image_50 ?_
        refine lv_iload_n hx hb dX11_image_53 rfl (lv_at hl 3 rfl) ?_
        by_cases c13 : v3 < 0 ∨ 8 ≤ v3.toNatClampNeg
        · have hf := (if_pos c13).symm.trans hf
          cases hf
        have hf := (if_neg c13).symm.trans hf
        refine va_iald hx hb hK hP 2 0 rfl rfl (show vp_in v3 8 from c13) dX11_image_54 ?_
        by_cases c14 : ((v2 + (8 : Int32)) + v3) < 0 ∨ 80 ≤ ((v2 + (8 : Int32)) + v3).toNatClampNeg
        · have hf := (if_pos c14).symm.trans hf
          cases hf
        have hf := (if_neg c14).symm.trans hf
        refine va_iast hx hb hK hP hD hS 8 0 rfl rfl (show vp_in ((v2 + (8 : Int32)) + v3) 80 from c14) dX11_image_55 (fun H locs hP hD hS => ?_)
        have hP : va_P D vwCl (ceM cI cZ th0 th1 th2 th3 th4 th5 th6 th7 th8 th9 ((M_weight u_th), (M_sits u_th), (M_stones u_th), (M_at u_th), (M_drag u_th), (M_sights u_th), (M_sight u_th), (M_signs u_th), (M_pad u_th), (M_foot u_th), (M_turned u_th), (M_bothWays u_th), (M_now u_th), (M_heap u_th), (M_reason u_th), (upd (upd (M_image u_th) (v2 + v3).toNatClampNeg ((M_weight u_th) v3.toNatClampNeg)) ((v2 + (8 : Int32)) + v3).toNatClampNeg ((M_sits u_th) v3.toNatClampNeg)), (M_isKept u_th))) H := hP
        have hD : va_D A (ceM cI cZ th0 th1 th2 th3 th4 th5 th6 th7 th8 th9 ((M_weight u_th), (M_sits u_th), (M_stones u_th), (M_at u_th), (M_drag u_th), (M_sights u_th), (M_sight u_th), (M_signs u_th), (M_pad u_th), (M_foot u_th), (M_turned u_th), (M_bothWays u_th), (M_now u_th), (M_heap u_th), (M_reason u_th), (upd (upd (M_image u_th) (v2 + v3).toNatClampNeg ((M_weight u_th) v3.toNatClampNeg)) ((v2 + (8 : Int32)) + v3).toNatClampNeg ((M_sits u_th) v3.toNatClampNeg)), (M_isKept u_th))) := hD
        refine lv_aload_n hx hb dX11_image_56 rfl (lv_at hl 0 rfl) ?_
        refine va_get (D := D) (ci := 8) (v := .ref th8) (C := RX11) (T := TX11) (N := 17) hx hb hts hi_X11 hown hK hP 0 rfl rfl 15 (by decide) (hts (.fieldLink RX11 35 "FairWheelModel" "image" "[I") (List.mem_of_getElem? (i := 1) rfl)) (fun _ h9 => h9) rfl dX11_image_57 ?_
        refine lv_iload_n hx hb dX11_image_60 rfl (lv_at hl 2 rfl) ?_
        refine lv_bipush (v := 16) hx hb dX11_image_61 (by decide) ?_
        refine lv_iadd hx hb dX11_image_63 ?_
        refine lv_iload_n hx hb dX11_image_64 rfl (lv_at hl 3 rfl) ?_
        refine lv_iadd hx hb dX11_image_65 ?_
        refine lv_aload_n hx hb dX11_image_66 rfl (lv_at hl 0 rfl) ?_
        refine va_get (D := D) (ci := 8) (v := .ref th3) (C := RX11) (T := TX11) (N := 17) hx hb hts hi_X11 hown hK hP 0 rfl rfl 2 (by decide) (hts (.fieldLink RX11 16 "FairWheelModel" "stones" "[I") (List.mem_of_getElem? (i := 4) rfl)) (fun _ h9 => h9) rfl dX11_image_67 ?_
        refine lv_iload_n hx hb dX11_image_70 rfl (lv_at hl 3 rfl) ?_
        by_cases c15 : v3 < 0 ∨ 8 ≤ v3.toNatClampNeg
        · have hf := (if_pos c15).symm.trans hf
          cases hf
        have hf := (if_neg c15).symm.trans hf
        refine va_iald hx hb hK hP 3 0 rfl rfl (show vp_in v3 8 from c15) dX11_image_71 ?_
        by_cases c16 : ((v2 + (16 : Int32)) + v3) < 0 ∨ 80 ≤ ((v2 + (16 : Int32)) + v3).toNatClampNeg
        · have hf := (if_pos c16).symm.trans hf
          cases hf
        have hf := (if_neg c16).symm.trans hf
        refine va_iast hx hb hK hP hD hS 8 0 rfl rfl (show vp_in ((v2 + (16 : Int32)) + v3) 80 from c16) dX11_image_72 (fun H locs hP hD hS => ?_)
        have hP : va_P D vwCl (ceM cI cZ th0 th1 th2 th3 th4 th5 th6 th7 th8 th9 ((M_weight u_th), (M_sits u_th), (M_stones u_th), (M_at u_th), (M_drag u_th), (M_sights u_th), (M_sight u_th), (M_signs u_th), (M_pad u_th), (M_foot u_th), (M_turned u_th), (M_bothWays u_th), (M_now u_th), (M_heap u_th), (M_reason u_th), (upd (upd (upd (M_image u_th) (v2 + v3).toNatClampNeg ((M_weight u_th) v3.toNatClampNeg)) ((v2 + (8 : Int32)) + v3).toNatClampNeg ((M_sits u_th) v3.toNatClampNeg)) ((v2 + (16 : Int32)) + v3).toNatClampNeg ((M_stones u_th) v3.toNatClampNeg)), (M_isKept u_th))) H := hP
        have hD : va_D A (ceM cI cZ th0 th1 th2 th3 th4 th5 th6 th7 th8 th9 ((M_weight u_th), (M_sits u_th), (M_stones u_th), (M_at u_th), (M_drag u_th), (M_sights u_th), (M_sight u_th), (M_signs u_th), (M_pad u_th), (M_foot u_th), (M_turned u_th), (M_bothWays u_th), (M_now u_th), (M_heap u_th), (M_reason u_th), (upd (upd (upd (M_image u_th) (v2 + v3).toNatClampNeg ((M_weight u_th) v3.toNatClampNeg)) ((v2 + (8 : Int32)) + v3).toNatClampNeg ((M_sits u_th) v3.toNatClampNeg)) ((v2 + (16 : Int32)) + v3).toNatClampNeg ((M_stones u_th) v3.toNatClampNeg)), (M_isKept u_th))) := hD
        refine lv_iinc (v := (v3 + (1 : Int32))) (lv' := [(3, .int (v3 + (1 : Int32))), (0, .ref th0), (1, .int v1), (2, .int v2)]) hx hb dX11_image_73 hl (k := 3) rfl rfl (by decide) rfl (fun ls hl => ?_)
        refine lv_goto (tgt := 19) hx hb dX11_image_76 (by decide) ?_
        exact ih v1 v2 (v3 + (1 : Int32)) ((M_weight u_th), (M_sits u_th), (M_stones u_th), (M_at u_th), (M_drag u_th), (M_sights u_th), (M_sight u_th), (M_signs u_th), (M_pad u_th), (M_foot u_th), (M_turned u_th), (M_bothWays u_th), (M_now u_th), (M_heap u_th), (M_reason u_th), (upd (upd (upd (M_image u_th) (v2 + v3).toNatClampNeg ((M_weight u_th) v3.toNatClampNeg)) ((v2 + (8 : Int32)) + v3).toNatClampNeg ((M_sits u_th) v3.toNatClampNeg)) ((v2 + (16 : Int32)) + v3).toNatClampNeg ((M_stones u_th) v3.toNatClampNeg)), (M_isKept u_th)) _ _ ls (lv_sub hl [1, 2, 3, 0] rfl) hP hD hS hf
  rw [f_X11_image] at hf
  refine lv_iload_n hx hb dX11_image_0 rfl (lv_at hl 1 rfl) ?_
  refine lv_iconst (v := 0) hx hb dX11_image_1 (by decide) ?_
  refine lv_iconst (v := 1) hx hb dX11_image_2 (by decide) ?_
  obtain ⟨z1, hz_z1, hf⟩ := o_bind hf
  refine k_calli (va_runS (As := [.int p1, .int (0 : Int32), .int (1 : Int32)]) (rest := []) ⟨hx, hb, hml, hown, hts⟩ (c_X11_in l D cI cZ  H.size p1 (0 : Int32) (1 : Int32) z1 hz_z1) (va_cwS 3 hts gX11_image_X11_in rfl rfl rfl hd_X11_in ⟨Nat.le_of_ble_eq_true rfl, Nat.le_of_ble_eq_true rfl⟩) (k_preS hK hP hD hS hA hE [] (by decide) rfl) rfl rfl hl.1 rfl (lv_room (Nat.le_of_ble_eq_true rfl)) dX11_image_3 ⟨Nat.zero_le _, Nat.zero_le _⟩) hP hD hS hA [] [none, none, none, none, none, none, none, none, none, none] 0 rfl (by decide) (by decide) rfl rfl (fun H locs hP hD hS => ?_)
  have hP : va_P D vwCl (ceM cI cZ th0 th1 th2 th3 th4 th5 th6 th7 th8 th9 u_th) H := hP
  have hD : va_D A (ceM cI cZ th0 th1 th2 th3 th4 th5 th6 th7 th8 th9 u_th) := hD
  refine lv_if_ne (tgt := 12) hx hb dX11_image_6 (by decide) (fun c2 => ?_) (fun c2 => ?_)
  · have hf := (if_neg c2).symm.trans hf
    refine lv_bipush (v := 40) hx hb dX11_image_12 (by decide) ?_
    refine lv_iload_n hx hb dX11_image_14 rfl (lv_at hl 1 rfl) ?_
    refine lv_imul hx hb dX11_image_15 ?_
    refine lv_istore_n (lv' := [(2, .int ((40 : Int32) * p1)), (0, .ref th0), (1, .int p1)]) hx hb dX11_image_16 rfl hl (by decide) rfl (fun ls hl => ?_)
    refine lv_iconst (v := 0) hx hb dX11_image_17 (by decide) ?_
    refine lv_istore_n (lv' := [(3, .int (0 : Int32)), (2, .int ((40 : Int32) * p1)), (0, .ref th0), (1, .int p1)]) hx hb dX11_image_18 rfl hl (by decide) rfl (fun ls hl => ?_)
    exact hL19 oF p1 ((40 : Int32) * p1) (0 : Int32) u_th _ _ ls (lv_sub hl [2, 3, 1, 0] rfl) hP hD hS hf
  · have hf := (if_pos c2).symm.trans hf
    refine lv_bipush (v := -2) hx hb dX11_image_9 (by decide) ?_
    exact k_iret (v := (-2 : Int32)) (u := u_th) hx hb hr hlocks hK hS eQ hf hP hD dX11_image_11
theorem hd_X11_restore : yX11_restore.cls ≠ "java/lang/invoke/MethodHandle" ∧ yX11_restore.cls ≠ "java/lang/invoke/VarHandle" ∧ (parseMethodDescriptor yX11_restore.desc).map (fun d => d.parameters.length) = some 1 := by decide +kernel
set_option maxHeartbeats 4000000 in
set_option maxRecDepth 100000 in
theorem c_X11_restore (l : Launch) (D : va_G) (cI cZ : ClassId) (th0 : Nat) (th1 : Nat) (th2 : Nat) (th3 : Nat) (th4 : Nat) (th5 : Nat) (th6 : Nat) (th7 : Nat) (th8 : Nat) (th9 : Nat) (sz : Nat) (u_th : sM) (p1 : Int32) (z : Int32 × sM) (hf : f_X11_restore u_th p1 = some z) : Met l yX11_restore wsX11_restore rmX11_restore (va_Pc [.ref th0, .int p1] (wPr D cI cZ (ceM cI cZ th0 th1 th2 th3 th4 th5 th6 th7 th8 th9 u_th) sz)) (va_Qi (fun (r : Int32) (v : sM) => (r, v) = z) (fun (v : sM) t => wPo D cI cZ (va_A (ceM cI cZ th0 th1 th2 th3 th4 th5 th6 th7 th8 th9 u_th) sz) (ceM cI cZ th0 th1 th2 th3 th4 th5 th6 th7 th8 th9 v) t) (va_A (ceM cI cZ th0 th1 th2 th3 th4 th5 th6 th7 th8 th9 u_th) sz)) 0 0 (va_A (ceM cI cZ th0 th1 th2 th3 th4 th5 th6 th7 th8 th9 u_th) sz) := by
  refine k_enter (D := D) (cI := cI) (cZ := cZ) (wl := ceM cI cZ th0 th1 th2 th3 th4 th5 th6 th7 th8 th9 u_th) (sz := sz) (av := [.ref th0, .int p1]) (cc := cX11_restore) (maxL := 4) (ret := (some .int)) (Qc := fun A => va_Qi (fun (r : Int32) (v : sM) => (r, v) = z) (fun (v : sM) t => wPo D cI cZ (A) (ceM cI cZ th0 th1 th2 th3 th4 th5 th6 th7 th8 th9 v) t) (A)) (by decide) rfl (Nat.le_of_ble_eq_true rfl) ?_
  intro p e s m below meth c ls A Q H locs eQ hx hb hr hml hts hown hlocks hK hP hD hS hA hE hl
  have hown : s.vm.findClass RX11 = some m.cls := hown
  have hl : lv_has ls 4 [(0, .ref th0), (1, .int p1)] := hl
  have hi_X11 : ∀ w ∈ wsX110, w ∈ wsX11_restore := fun w h => List.mem_cons_of_mem _ (List.mem_append_right _ h)
  have hL93 : ∀ (n : Nat), ∀ (v2 : Int32) (v3 : Int32) (u_th : sM) (H : Heap) (locs : List Loc) (ls : Array Slot), lv_has ls 4 [(0, .ref th0), (2, .int v2), (3, .int v3)] → va_P D vwCl (ceM cI cZ th0 th1 th2 th3 th4 th5 th6 th7 th8 th9 u_th) H → va_D A (ceM cI cZ th0 th1 th2 th3 th4 th5 th6 th7 th8 th9 u_th) → va_S A s.heap H locs → f_X11_restore_L93 n v2 v3 u_th = some z → W p l e (headSpec wsX11_restore rmX11_restore).room s m ([.ref th0, .int p1] : List Value).toArray below meth c H locs 0 0 Q (F0 m 93 ls []) := by
    intro n
    induction n with
    | zero =>
      intro v2 v3 u_th H locs ls hl hP hD hS hf
      exact absurd (show (none : Option (Int32 × sM)) = some z from hf) (fun h => by cases h)
    | succ n ih =>
      intro v2 v3 u_th H locs ls hl hP hD hS hf
      rw [f_X11_restore_L93] at hf
      refine lv_iload_n hx hb dX11_restore_93 rfl (lv_at hl 2 rfl) ?_
      refine lv_bipush (v := 12) hx hb dX11_restore_94 (by decide) ?_
      refine lv_icmp_ge (tgt := 122) hx hb dX11_restore_96 (by decide) (fun c6 => ?_) (fun c6 => ?_)
      · have hf := (if_pos c6).symm.trans hf
        refine lv_aload_n hx hb dX11_restore_122 rfl (lv_at hl 0 rfl) ?_
        refine lv_aload_n hx hb dX11_restore_123 rfl (lv_at hl 0 rfl) ?_
        refine va_get (D := D) (ci := 8) (v := .ref th8) (C := RX11) (T := TX11) (N := 17) hx hb hts hi_X11 hown hK hP 0 rfl rfl 15 (by decide) (hts (.fieldLink RX11 35 "FairWheelModel" "image" "[I") (List.mem_of_getElem? (i := 3) rfl)) (fun _ h9 => h9) rfl dX11_restore_124 ?_
        refine lv_iload_n hx hb dX11_restore_127 rfl (lv_at hl 1 rfl) ?_
        refine lv_bipush (v := 36) hx hb dX11_restore_128 (by decide) ?_
        refine lv_iadd hx hb dX11_restore_130 ?_
        by_cases c7 : (v2 + (36 : Int32)) < 0 ∨ 80 ≤ (v2 + (36 : Int32)).toNatClampNeg
        · have hf := (if_pos c7).symm.trans hf
          cases hf
        have hf := (if_neg c7).symm.trans hf
        refine va_iald hx hb hK hP 8 0 rfl rfl (show vp_in (v2 + (36 : Int32)) 80 from c7) dX11_restore_131 ?_
        refine va_put (D := D) (ci := 8) (v := .int ((M_image u_th) (v2 + (36 : Int32)).toNatClampNeg)) (ty := .int) (C := RX11) (T := TX11) (N := 17) hx hb hts hi_X11 tyX11 tyX11_ok nmX11 hown hK hP hD hS 0 rfl rfl 3 (by decide) (hts (.fieldLink RX11 57 "FairWheelModel" "at" "I") (List.mem_of_getElem? (i := 7) rfl)) (fun _ h9 => h9) rfl (by decide +kernel) rfl rfl (Nat.le_of_ble_eq_true rfl) dX11_restore_132 (fun H locs hP hD hS => ?_)
        have hP : va_P D vwCl (ceM cI cZ th0 th1 th2 th3 th4 th5 th6 th7 th8 th9 ((M_weight u_th), (M_sits u_th), (M_stones u_th), ((M_image u_th) (v2 + (36 : Int32)).toNatClampNeg), (M_drag u_th), (M_sights u_th), (M_sight u_th), (M_signs u_th), (M_pad u_th), (M_foot u_th), (M_turned u_th), (M_bothWays u_th), (M_now u_th), (M_heap u_th), (M_reason u_th), (M_image u_th), (M_isKept u_th))) H := hP
        have hD : va_D A (ceM cI cZ th0 th1 th2 th3 th4 th5 th6 th7 th8 th9 ((M_weight u_th), (M_sits u_th), (M_stones u_th), ((M_image u_th) (v2 + (36 : Int32)).toNatClampNeg), (M_drag u_th), (M_sights u_th), (M_sight u_th), (M_signs u_th), (M_pad u_th), (M_foot u_th), (M_turned u_th), (M_bothWays u_th), (M_now u_th), (M_heap u_th), (M_reason u_th), (M_image u_th), (M_isKept u_th))) := hD
        refine lv_aload_n hx hb dX11_restore_135 rfl (lv_at hl 0 rfl) ?_
        refine lv_aload_n hx hb dX11_restore_136 rfl (lv_at hl 0 rfl) ?_
        refine va_get (D := D) (ci := 8) (v := .ref th8) (C := RX11) (T := TX11) (N := 17) hx hb hts hi_X11 hown hK hP 0 rfl rfl 15 (by decide) (hts (.fieldLink RX11 35 "FairWheelModel" "image" "[I") (List.mem_of_getElem? (i := 3) rfl)) (fun _ h9 => h9) rfl dX11_restore_137 ?_
        refine lv_iload_n hx hb dX11_restore_140 rfl (lv_at hl 1 rfl) ?_
        refine lv_bipush (v := 37) hx hb dX11_restore_141 (by decide) ?_
        refine lv_iadd hx hb dX11_restore_143 ?_
        by_cases c8 : (v2 + (37 : Int32)) < 0 ∨ 80 ≤ (v2 + (37 : Int32)).toNatClampNeg
        · have hf := (if_pos c8).symm.trans hf
          cases hf
        have hf := (if_neg c8).symm.trans hf
        refine va_iald hx hb hK hP 8 0 rfl rfl (show vp_in (v2 + (37 : Int32)) 80 from c8) dX11_restore_144 ?_
        refine va_put (D := D) (ci := 8) (v := .int ((M_image u_th) (v2 + (37 : Int32)).toNatClampNeg)) (ty := .int) (C := RX11) (T := TX11) (N := 17) hx hb hts hi_X11 tyX11 tyX11_ok nmX11 hown hK hP hD hS 0 rfl rfl 4 (by decide) (hts (.fieldLink RX11 19 "FairWheelModel" "drag" "I") (List.mem_of_getElem? (i := 8) rfl)) (fun _ h9 => h9) rfl (by decide +kernel) rfl rfl (Nat.le_of_ble_eq_true rfl) dX11_restore_145 (fun H locs hP hD hS => ?_)
        have hP : va_P D vwCl (ceM cI cZ th0 th1 th2 th3 th4 th5 th6 th7 th8 th9 ((M_weight u_th), (M_sits u_th), (M_stones u_th), ((M_image u_th) (v2 + (36 : Int32)).toNatClampNeg), ((M_image u_th) (v2 + (37 : Int32)).toNatClampNeg), (M_sights u_th), (M_sight u_th), (M_signs u_th), (M_pad u_th), (M_foot u_th), (M_turned u_th), (M_bothWays u_th), (M_now u_th), (M_heap u_th), (M_reason u_th), (M_image u_th), (M_isKept u_th))) H := hP
        have hD : va_D A (ceM cI cZ th0 th1 th2 th3 th4 th5 th6 th7 th8 th9 ((M_weight u_th), (M_sits u_th), (M_stones u_th), ((M_image u_th) (v2 + (36 : Int32)).toNatClampNeg), ((M_image u_th) (v2 + (37 : Int32)).toNatClampNeg), (M_sights u_th), (M_sight u_th), (M_signs u_th), (M_pad u_th), (M_foot u_th), (M_turned u_th), (M_bothWays u_th), (M_now u_th), (M_heap u_th), (M_reason u_th), (M_image u_th), (M_isKept u_th))) := hD
        refine lv_aload_n hx hb dX11_restore_148 rfl (lv_at hl 0 rfl) ?_
        refine lv_aload_n hx hb dX11_restore_149 rfl (lv_at hl 0 rfl) ?_
        refine va_get (D := D) (ci := 8) (v := .ref th8) (C := RX11) (T := TX11) (N := 17) hx hb hts hi_X11 hown hK hP 0 rfl rfl 15 (by decide) (hts (.fieldLink RX11 35 "FairWheelModel" "image" "[I") (List.mem_of_getElem? (i := 3) rfl)) (fun _ h9 => h9) rfl dX11_restore_150 ?_
        refine lv_iload_n hx hb dX11_restore_153 rfl (lv_at hl 1 rfl) ?_
        refine lv_bipush (v := 38) hx hb dX11_restore_154 (by decide) ?_
        refine lv_iadd hx hb dX11_restore_156 ?_
        by_cases c9 : (v2 + (38 : Int32)) < 0 ∨ 80 ≤ (v2 + (38 : Int32)).toNatClampNeg
        · have hf := (if_pos c9).symm.trans hf
          cases hf
        have hf := (if_neg c9).symm.trans hf
        refine va_iald hx hb hK hP 8 0 rfl rfl (show vp_in (v2 + (38 : Int32)) 80 from c9) dX11_restore_157 ?_
        refine va_put (D := D) (ci := 8) (v := .int ((M_image u_th) (v2 + (38 : Int32)).toNatClampNeg)) (ty := .int) (C := RX11) (T := TX11) (N := 17) hx hb hts hi_X11 tyX11 tyX11_ok nmX11 hown hK hP hD hS 0 rfl rfl 5 (by decide) (hts (.fieldLink RX11 115 "FairWheelModel" "sights" "I") (List.mem_of_getElem? (i := 9) rfl)) (fun _ h9 => h9) rfl (by decide +kernel) rfl rfl (Nat.le_of_ble_eq_true rfl) dX11_restore_158 (fun H locs hP hD hS => ?_)
        have hP : va_P D vwCl (ceM cI cZ th0 th1 th2 th3 th4 th5 th6 th7 th8 th9 ((M_weight u_th), (M_sits u_th), (M_stones u_th), ((M_image u_th) (v2 + (36 : Int32)).toNatClampNeg), ((M_image u_th) (v2 + (37 : Int32)).toNatClampNeg), ((M_image u_th) (v2 + (38 : Int32)).toNatClampNeg), (M_sight u_th), (M_signs u_th), (M_pad u_th), (M_foot u_th), (M_turned u_th), (M_bothWays u_th), (M_now u_th), (M_heap u_th), (M_reason u_th), (M_image u_th), (M_isKept u_th))) H := hP
        have hD : va_D A (ceM cI cZ th0 th1 th2 th3 th4 th5 th6 th7 th8 th9 ((M_weight u_th), (M_sits u_th), (M_stones u_th), ((M_image u_th) (v2 + (36 : Int32)).toNatClampNeg), ((M_image u_th) (v2 + (37 : Int32)).toNatClampNeg), ((M_image u_th) (v2 + (38 : Int32)).toNatClampNeg), (M_sight u_th), (M_signs u_th), (M_pad u_th), (M_foot u_th), (M_turned u_th), (M_bothWays u_th), (M_now u_th), (M_heap u_th), (M_reason u_th), (M_image u_th), (M_isKept u_th))) := hD
        refine lv_iconst (v := 1) hx hb dX11_restore_161 (by decide) ?_
        exact k_iret (v := (1 : Int32)) (u := ((M_weight u_th), (M_sits u_th), (M_stones u_th), ((M_image u_th) (v2 + (36 : Int32)).toNatClampNeg), ((M_image u_th) (v2 + (37 : Int32)).toNatClampNeg), ((M_image u_th) (v2 + (38 : Int32)).toNatClampNeg), (M_sight u_th), (M_signs u_th), (M_pad u_th), (M_foot u_th), (M_turned u_th), (M_bothWays u_th), (M_now u_th), (M_heap u_th), (M_reason u_th), (M_image u_th), (M_isKept u_th))) hx hb hr hlocks hK hS eQ hf hP hD dX11_restore_162
      · have hf := (if_neg c6).symm.trans hf
        refine lv_aload_n hx hb dX11_restore_99 rfl (lv_at hl 0 rfl) ?_
        refine va_get (D := D) (ci := 8) (v := .ref th4) (C := RX11) (T := TX11) (N := 17) hx hb hts hi_X11 hown hK hP 0 rfl rfl 6 (by decide) (hts (.fieldLink RX11 23 "FairWheelModel" "sight" "[I") (List.mem_of_getElem? (i := 6) rfl)) (fun _ h9 => h9) rfl dX11_restore_100 ?_
        refine lv_iload_n hx hb dX11_restore_103 rfl (lv_at hl 2 rfl) ?_
        refine lv_aload_n hx hb dX11_restore_104 rfl (lv_at hl 0 rfl) ?_
        refine va_get (D := D) (ci := 8) (v := .ref th8) (C := RX11) (T := TX11) (N := 17) hx hb hts hi_X11 hown hK hP 0 rfl rfl 15 (by decide) (hts (.fieldLink RX11 35 "FairWheelModel" "image" "[I") (List.mem_of_getElem? (i := 3) rfl)) (fun _ h9 => h9) rfl dX11_restore_105 ?_
        refine lv_iload_n hx hb dX11_restore_108 rfl (lv_at hl 1 rfl) ?_
        refine lv_bipush (v := 24) hx hb dX11_restore_109 (by decide) ?_
        refine lv_iadd hx hb dX11_restore_111 ?_
        refine lv_iload_n hx hb dX11_restore_112 rfl (lv_at hl 2 rfl) ?_
        refine lv_iadd hx hb dX11_restore_113 ?_
        by_cases c10 : ((v2 + (24 : Int32)) + v3) < 0 ∨ 80 ≤ ((v2 + (24 : Int32)) + v3).toNatClampNeg
        · have hf := (if_pos c10).symm.trans hf
          cases hf
        have hf := (if_neg c10).symm.trans hf
        refine va_iald hx hb hK hP 8 0 rfl rfl (show vp_in ((v2 + (24 : Int32)) + v3) 80 from c10) dX11_restore_114 ?_
        by_cases c11 : v3 < 0 ∨ 12 ≤ v3.toNatClampNeg
        · have hf := (if_pos c11).symm.trans hf
          cases hf
        have hf := (if_neg c11).symm.trans hf
        refine va_iast hx hb hK hP hD hS 4 0 rfl rfl (show vp_in v3 12 from c11) dX11_restore_115 (fun H locs hP hD hS => ?_)
        have hP : va_P D vwCl (ceM cI cZ th0 th1 th2 th3 th4 th5 th6 th7 th8 th9 ((M_weight u_th), (M_sits u_th), (M_stones u_th), (M_at u_th), (M_drag u_th), (M_sights u_th), (upd (M_sight u_th) v3.toNatClampNeg ((M_image u_th) ((v2 + (24 : Int32)) + v3).toNatClampNeg)), (M_signs u_th), (M_pad u_th), (M_foot u_th), (M_turned u_th), (M_bothWays u_th), (M_now u_th), (M_heap u_th), (M_reason u_th), (M_image u_th), (M_isKept u_th))) H := hP
        have hD : va_D A (ceM cI cZ th0 th1 th2 th3 th4 th5 th6 th7 th8 th9 ((M_weight u_th), (M_sits u_th), (M_stones u_th), (M_at u_th), (M_drag u_th), (M_sights u_th), (upd (M_sight u_th) v3.toNatClampNeg ((M_image u_th) ((v2 + (24 : Int32)) + v3).toNatClampNeg)), (M_signs u_th), (M_pad u_th), (M_foot u_th), (M_turned u_th), (M_bothWays u_th), (M_now u_th), (M_heap u_th), (M_reason u_th), (M_image u_th), (M_isKept u_th))) := hD
        refine lv_iinc (v := (v3 + (1 : Int32))) (lv' := [(3, .int (v3 + (1 : Int32))), (0, .ref th0), (2, .int v2)]) hx hb dX11_restore_116 hl (k := 2) rfl rfl (by decide) rfl (fun ls hl => ?_)
        refine lv_goto (tgt := 93) hx hb dX11_restore_119 (by decide) ?_
        exact ih v2 (v3 + (1 : Int32)) ((M_weight u_th), (M_sits u_th), (M_stones u_th), (M_at u_th), (M_drag u_th), (M_sights u_th), (upd (M_sight u_th) v3.toNatClampNeg ((M_image u_th) ((v2 + (24 : Int32)) + v3).toNatClampNeg)), (M_signs u_th), (M_pad u_th), (M_foot u_th), (M_turned u_th), (M_bothWays u_th), (M_now u_th), (M_heap u_th), (M_reason u_th), (M_image u_th), (M_isKept u_th)) _ _ ls (lv_sub hl [1, 2, 0] rfl) hP hD hS hf
  have hL31 : ∀ (n : Nat), ∀ (v2 : Int32) (v3 : Int32) (u_th : sM) (H : Heap) (locs : List Loc) (ls : Array Slot), lv_has ls 4 [(0, .ref th0), (2, .int v2), (3, .int v3)] → va_P D vwCl (ceM cI cZ th0 th1 th2 th3 th4 th5 th6 th7 th8 th9 u_th) H → va_D A (ceM cI cZ th0 th1 th2 th3 th4 th5 th6 th7 th8 th9 u_th) → va_S A s.heap H locs → f_X11_restore_L31 n v2 v3 u_th = some z → W p l e (headSpec wsX11_restore rmX11_restore).room s m ([.ref th0, .int p1] : List Value).toArray below meth c H locs 0 0 Q (F0 m 31 ls []) := by
    intro n
    induction n with
    | zero =>
      intro v2 v3 u_th H locs ls hl hP hD hS hf
      exact absurd (show (none : Option (Int32 × sM)) = some z from hf) (fun h => by cases h)
    | succ n ih =>
      intro v2 v3 u_th H locs ls hl hP hD hS hf
      rw [f_X11_restore_L31] at hf
      refine lv_iload_n hx hb dX11_restore_31 rfl (lv_at hl 2 rfl) ?_
      refine lv_bipush (v := 8) hx hb dX11_restore_32 (by decide) ?_
      refine lv_icmp_ge (tgt := 91) hx hb dX11_restore_34 (by decide) (fun c5 => ?_) (fun c5 => ?_)
      · have hf := (if_pos c5).symm.trans hf
        refine lv_iconst (v := 0) hx hb dX11_restore_91 (by decide) ?_
        refine lv_istore_n (lv' := [(3, .int (0 : Int32)), (0, .ref th0), (2, .int v2)]) hx hb dX11_restore_92 rfl hl (by decide) rfl (fun ls hl => ?_)
        exact hL93 oF v2 (0 : Int32) u_th _ _ ls (lv_sub hl [1, 2, 0] rfl) hP hD hS hf
      · have hf := (if_neg c5).symm.trans hf
        refine lv_aload_n hx hb dX11_restore_37 rfl (lv_at hl 0 rfl) ?_
        refine va_get (D := D) (ci := 8) (v := .ref th1) (C := RX11) (T := TX11) (N := 17) hx hb hts hi_X11 hown hK hP 0 rfl rfl 0 (by decide) (hts (.fieldLink RX11 7 "FairWheelModel" "weight" "[I") (List.mem_of_getElem? (i := 2) rfl)) (fun _ h9 => h9) rfl dX11_restore_38 ?_
        refine lv_iload_n hx hb dX11_restore_41 rfl (lv_at hl 2 rfl) ?_
        refine lv_aload_n hx hb dX11_restore_42 rfl (lv_at hl 0 rfl) ?_
        refine va_get (D := D) (ci := 8) (v := .ref th8) (C := RX11) (T := TX11) (N := 17) hx hb hts hi_X11 hown hK hP 0 rfl rfl 15 (by decide) (hts (.fieldLink RX11 35 "FairWheelModel" "image" "[I") (List.mem_of_getElem? (i := 3) rfl)) (fun _ h9 => h9) rfl dX11_restore_43 ?_
        refine lv_iload_n hx hb dX11_restore_46 rfl (lv_at hl 1 rfl) ?_
        refine lv_iload_n hx hb dX11_restore_47 rfl (lv_at hl 2 rfl) ?_
        refine lv_iadd hx hb dX11_restore_48 ?_
        by_cases c12 : (v2 + v3) < 0 ∨ 80 ≤ (v2 + v3).toNatClampNeg
        · have hf := (if_pos c12).symm.trans hf
          cases hf
        have hf := (if_neg c12).symm.trans hf
        refine va_iald hx hb hK hP 8 0 rfl rfl (show vp_in (v2 + v3) 80 from c12) dX11_restore_49 ?_
        by_cases c13 : v3 < 0 ∨ 8 ≤ v3.toNatClampNeg
        · have hf := (if_pos c13).symm.trans hf
          cases hf
        have hf := (if_neg c13).symm.trans hf
        refine va_iast hx hb hK hP hD hS 1 0 rfl rfl (show vp_in v3 8 from c13) dX11_restore_50 (fun H locs hP hD hS => ?_)
        have hP : va_P D vwCl (ceM cI cZ th0 th1 th2 th3 th4 th5 th6 th7 th8 th9 ((upd (M_weight u_th) v3.toNatClampNeg ((M_image u_th) (v2 + v3).toNatClampNeg)), (M_sits u_th), (M_stones u_th), (M_at u_th), (M_drag u_th), (M_sights u_th), (M_sight u_th), (M_signs u_th), (M_pad u_th), (M_foot u_th), (M_turned u_th), (M_bothWays u_th), (M_now u_th), (M_heap u_th), (M_reason u_th), (M_image u_th), (M_isKept u_th))) H := hP
        have hD : va_D A (ceM cI cZ th0 th1 th2 th3 th4 th5 th6 th7 th8 th9 ((upd (M_weight u_th) v3.toNatClampNeg ((M_image u_th) (v2 + v3).toNatClampNeg)), (M_sits u_th), (M_stones u_th), (M_at u_th), (M_drag u_th), (M_sights u_th), (M_sight u_th), (M_signs u_th), (M_pad u_th), (M_foot u_th), (M_turned u_th), (M_bothWays u_th), (M_now u_th), (M_heap u_th), (M_reason u_th), (M_image u_th), (M_isKept u_th))) := hD
        refine lv_aload_n hx hb dX11_restore_51 rfl (lv_at hl 0 rfl) ?_
        refine va_get (D := D) (ci := 8) (v := .ref th2) (C := RX11) (T := TX11) (N := 17) hx hb hts hi_X11 hown hK hP 0 rfl rfl 1 (by decide) (hts (.fieldLink RX11 13 "FairWheelModel" "sits" "[I") (List.mem_of_getElem? (i := 4) rfl)) (fun _ h9 => h9) rfl dX11_restore_52 ?_
        refine lv_iload_n hx hb dX11_restore_55 rfl (lv_at hl 2 rfl) ?_
        refine lv_aload_n hx hb dX11_restore_56 rfl (lv_at hl 0 rfl) ?_
        refine va_get (D := D) (ci := 8) (v := .ref th8) (C := RX11) (T := TX11) (N := 17) hx hb hts hi_X11 hown hK hP 0 rfl rfl 15 (by decide) (hts (.fieldLink RX11 35 "FairWheelModel" "image" "[I") (List.mem_of_getElem? (i := 3) rfl)) (fun _ h9 => h9) rfl dX11_restore_57 ?_
        refine lv_iload_n hx hb dX11_restore_60 rfl (lv_at hl 1 rfl) ?_
        refine lv_bipush (v := 8) hx hb dX11_restore_61 (by decide) ?_
        refine lv_iadd hx hb dX11_restore_63 ?_
        refine lv_iload_n hx hb dX11_restore_64 rfl (lv_at hl 2 rfl) ?_
        refine lv_iadd hx hb dX11_restore_65 ?_
        by_cases c14 : ((v2 + (8 : Int32)) + v3) < 0 ∨ 80 ≤ ((v2 + (8 : Int32)) + v3).toNatClampNeg
        · have hf := (if_pos c14).symm.trans hf
          cases hf
        have hf := (if_neg c14).symm.trans hf
        refine va_iald hx hb hK hP 8 0 rfl rfl (show vp_in ((v2 + (8 : Int32)) + v3) 80 from c14) dX11_restore_66 ?_
        by_cases c15 : v3 < 0 ∨ 8 ≤ v3.toNatClampNeg
        · have hf := (if_pos c15).symm.trans hf
          cases hf
        have hf := (if_neg c15).symm.trans hf
        refine va_iast hx hb hK hP hD hS 2 0 rfl rfl (show vp_in v3 8 from c15) dX11_restore_67 (fun H locs hP hD hS => ?_)
        have hP : va_P D vwCl (ceM cI cZ th0 th1 th2 th3 th4 th5 th6 th7 th8 th9 ((upd (M_weight u_th) v3.toNatClampNeg ((M_image u_th) (v2 + v3).toNatClampNeg)), (upd (M_sits u_th) v3.toNatClampNeg ((M_image u_th) ((v2 + (8 : Int32)) + v3).toNatClampNeg)), (M_stones u_th), (M_at u_th), (M_drag u_th), (M_sights u_th), (M_sight u_th), (M_signs u_th), (M_pad u_th), (M_foot u_th), (M_turned u_th), (M_bothWays u_th), (M_now u_th), (M_heap u_th), (M_reason u_th), (M_image u_th), (M_isKept u_th))) H := hP
        have hD : va_D A (ceM cI cZ th0 th1 th2 th3 th4 th5 th6 th7 th8 th9 ((upd (M_weight u_th) v3.toNatClampNeg ((M_image u_th) (v2 + v3).toNatClampNeg)), (upd (M_sits u_th) v3.toNatClampNeg ((M_image u_th) ((v2 + (8 : Int32)) + v3).toNatClampNeg)), (M_stones u_th), (M_at u_th), (M_drag u_th), (M_sights u_th), (M_sight u_th), (M_signs u_th), (M_pad u_th), (M_foot u_th), (M_turned u_th), (M_bothWays u_th), (M_now u_th), (M_heap u_th), (M_reason u_th), (M_image u_th), (M_isKept u_th))) := hD
        refine lv_aload_n hx hb dX11_restore_68 rfl (lv_at hl 0 rfl) ?_
        refine va_get (D := D) (ci := 8) (v := .ref th3) (C := RX11) (T := TX11) (N := 17) hx hb hts hi_X11 hown hK hP 0 rfl rfl 2 (by decide) (hts (.fieldLink RX11 16 "FairWheelModel" "stones" "[I") (List.mem_of_getElem? (i := 5) rfl)) (fun _ h9 => h9) rfl dX11_restore_69 ?_
        refine lv_iload_n hx hb dX11_restore_72 rfl (lv_at hl 2 rfl) ?_
        refine lv_aload_n hx hb dX11_restore_73 rfl (lv_at hl 0 rfl) ?_
        refine va_get (D := D) (ci := 8) (v := .ref th8) (C := RX11) (T := TX11) (N := 17) hx hb hts hi_X11 hown hK hP 0 rfl rfl 15 (by decide) (hts (.fieldLink RX11 35 "FairWheelModel" "image" "[I") (List.mem_of_getElem? (i := 3) rfl)) (fun _ h9 => h9) rfl dX11_restore_74 ?_
        refine lv_iload_n hx hb dX11_restore_77 rfl (lv_at hl 1 rfl) ?_
        refine lv_bipush (v := 16) hx hb dX11_restore_78 (by decide) ?_
        refine lv_iadd hx hb dX11_restore_80 ?_
        refine lv_iload_n hx hb dX11_restore_81 rfl (lv_at hl 2 rfl) ?_
        refine lv_iadd hx hb dX11_restore_82 ?_
        by_cases c16 : ((v2 + (16 : Int32)) + v3) < 0 ∨ 80 ≤ ((v2 + (16 : Int32)) + v3).toNatClampNeg
        · have hf := (if_pos c16).symm.trans hf
          cases hf
        have hf := (if_neg c16).symm.trans hf
        refine va_iald hx hb hK hP 8 0 rfl rfl (show vp_in ((v2 + (16 : Int32)) + v3) 80 from c16) dX11_restore_83 ?_
        by_cases c17 : v3 < 0 ∨ 8 ≤ v3.toNatClampNeg
        · have hf := (if_pos c17).symm.trans hf
          cases hf
        have hf := (if_neg c17).symm.trans hf
        refine va_iast hx hb hK hP hD hS 3 0 rfl rfl (show vp_in v3 8 from c17) dX11_restore_84 (fun H locs hP hD hS => ?_)
        have hP : va_P D vwCl (ceM cI cZ th0 th1 th2 th3 th4 th5 th6 th7 th8 th9 ((upd (M_weight u_th) v3.toNatClampNeg ((M_image u_th) (v2 + v3).toNatClampNeg)), (upd (M_sits u_th) v3.toNatClampNeg ((M_image u_th) ((v2 + (8 : Int32)) + v3).toNatClampNeg)), (upd (M_stones u_th) v3.toNatClampNeg ((M_image u_th) ((v2 + (16 : Int32)) + v3).toNatClampNeg)), (M_at u_th), (M_drag u_th), (M_sights u_th), (M_sight u_th), (M_signs u_th), (M_pad u_th), (M_foot u_th), (M_turned u_th), (M_bothWays u_th), (M_now u_th), (M_heap u_th), (M_reason u_th), (M_image u_th), (M_isKept u_th))) H := hP
        have hD : va_D A (ceM cI cZ th0 th1 th2 th3 th4 th5 th6 th7 th8 th9 ((upd (M_weight u_th) v3.toNatClampNeg ((M_image u_th) (v2 + v3).toNatClampNeg)), (upd (M_sits u_th) v3.toNatClampNeg ((M_image u_th) ((v2 + (8 : Int32)) + v3).toNatClampNeg)), (upd (M_stones u_th) v3.toNatClampNeg ((M_image u_th) ((v2 + (16 : Int32)) + v3).toNatClampNeg)), (M_at u_th), (M_drag u_th), (M_sights u_th), (M_sight u_th), (M_signs u_th), (M_pad u_th), (M_foot u_th), (M_turned u_th), (M_bothWays u_th), (M_now u_th), (M_heap u_th), (M_reason u_th), (M_image u_th), (M_isKept u_th))) := hD
        refine lv_iinc (v := (v3 + (1 : Int32))) (lv' := [(3, .int (v3 + (1 : Int32))), (0, .ref th0), (2, .int v2)]) hx hb dX11_restore_85 hl (k := 2) rfl rfl (by decide) rfl (fun ls hl => ?_)
        refine lv_goto (tgt := 31) hx hb dX11_restore_88 (by decide) ?_
        exact ih v2 (v3 + (1 : Int32)) ((upd (M_weight u_th) v3.toNatClampNeg ((M_image u_th) (v2 + v3).toNatClampNeg)), (upd (M_sits u_th) v3.toNatClampNeg ((M_image u_th) ((v2 + (8 : Int32)) + v3).toNatClampNeg)), (upd (M_stones u_th) v3.toNatClampNeg ((M_image u_th) ((v2 + (16 : Int32)) + v3).toNatClampNeg)), (M_at u_th), (M_drag u_th), (M_sights u_th), (M_sight u_th), (M_signs u_th), (M_pad u_th), (M_foot u_th), (M_turned u_th), (M_bothWays u_th), (M_now u_th), (M_heap u_th), (M_reason u_th), (M_image u_th), (M_isKept u_th)) _ _ ls (lv_sub hl [1, 2, 0] rfl) hP hD hS hf
  rw [f_X11_restore] at hf
  refine lv_iload_n hx hb dX11_restore_0 rfl (lv_at hl 1 rfl) ?_
  refine lv_iconst (v := 0) hx hb dX11_restore_1 (by decide) ?_
  refine lv_iconst (v := 1) hx hb dX11_restore_2 (by decide) ?_
  obtain ⟨z1, hz_z1, hf⟩ := o_bind hf
  refine k_calli (va_runS (As := [.int p1, .int (0 : Int32), .int (1 : Int32)]) (rest := []) ⟨hx, hb, hml, hown, hts⟩ (c_X11_in l D cI cZ  H.size p1 (0 : Int32) (1 : Int32) z1 hz_z1) (va_cwS 3 hts gX11_restore_X11_in rfl rfl rfl hd_X11_in ⟨Nat.le_of_ble_eq_true rfl, Nat.le_of_ble_eq_true rfl⟩) (k_preS hK hP hD hS hA hE [] (by decide) rfl) rfl rfl hl.1 rfl (lv_room (Nat.le_of_ble_eq_true rfl)) dX11_restore_3 ⟨Nat.zero_le _, Nat.zero_le _⟩) hP hD hS hA [] [none, none, none, none, none, none, none, none, none, none] 0 rfl (by decide) (by decide) rfl rfl (fun H locs hP hD hS => ?_)
  have hP : va_P D vwCl (ceM cI cZ th0 th1 th2 th3 th4 th5 th6 th7 th8 th9 u_th) H := hP
  have hD : va_D A (ceM cI cZ th0 th1 th2 th3 th4 th5 th6 th7 th8 th9 u_th) := hD
  refine lv_if_ne (tgt := 12) hx hb dX11_restore_6 (by decide) (fun c2 => ?_) (fun c2 => ?_)
  · have hf := (if_neg c2).symm.trans hf
    refine lv_aload_n hx hb dX11_restore_12 rfl (lv_at hl 0 rfl) ?_
    refine va_get (D := D) (ci := 8) (v := .ref th9) (C := RX11) (T := TX11) (N := 17) hx hb hts hi_X11 hown hK hP 0 rfl rfl 16 (by decide) (hts (.fieldLink RX11 38 "FairWheelModel" "isKept" "[Z") (List.mem_of_getElem? (i := 1) rfl)) (fun _ h9 => h9) rfl dX11_restore_13 ?_
    refine lv_iload_n hx hb dX11_restore_16 rfl (lv_at hl 1 rfl) ?_
    by_cases c3 : p1 < 0 ∨ 2 ≤ p1.toNatClampNeg
    · have hf := (if_pos c3).symm.trans hf
      cases hf
    have hf := (if_neg c3).symm.trans hf
    refine va_zald hx hb hK hP 9 1 rfl rfl (show vp_in p1 2 from c3) dX11_restore_17 ?_
    refine lv_if_ne (tgt := 24) hx hb dX11_restore_18 (by decide) (fun c4 => ?_) (fun c4 => ?_)
    · have hf := (if_neg c4).symm.trans hf
      refine lv_bipush (v := 40) hx hb dX11_restore_24 (by decide) ?_
      refine lv_iload_n hx hb dX11_restore_26 rfl (lv_at hl 1 rfl) ?_
      refine lv_imul hx hb dX11_restore_27 ?_
      refine lv_istore_n (lv' := [(2, .int ((40 : Int32) * p1)), (0, .ref th0), (1, .int p1)]) hx hb dX11_restore_28 rfl hl (by decide) rfl (fun ls hl => ?_)
      refine lv_iconst (v := 0) hx hb dX11_restore_29 (by decide) ?_
      refine lv_istore_n (lv' := [(3, .int (0 : Int32)), (2, .int ((40 : Int32) * p1)), (0, .ref th0), (1, .int p1)]) hx hb dX11_restore_30 rfl hl (by decide) rfl (fun ls hl => ?_)
      exact hL31 oF ((40 : Int32) * p1) (0 : Int32) u_th _ _ ls (lv_sub hl [2, 1, 0] rfl) hP hD hS hf
    · have hf := (if_pos c4).symm.trans hf
      refine lv_bipush (v := -3) hx hb dX11_restore_21 (by decide) ?_
      exact k_iret (v := (-3 : Int32)) (u := u_th) hx hb hr hlocks hK hS eQ hf hP hD dX11_restore_23
  · have hf := (if_pos c2).symm.trans hf
    refine lv_bipush (v := -2) hx hb dX11_restore_9 (by decide) ?_
    exact k_iret (v := (-2 : Int32)) (u := u_th) hx hb hr hlocks hK hS eQ hf hP hD dX11_restore_11
theorem hd_X11_told : yX11_told.cls ≠ "java/lang/invoke/MethodHandle" ∧ yX11_told.cls ≠ "java/lang/invoke/VarHandle" ∧ (parseMethodDescriptor yX11_told.desc).map (fun d => d.parameters.length) = some 1 := by decide +kernel
set_option maxHeartbeats 4000000 in
set_option maxRecDepth 100000 in
theorem c_X11_told (l : Launch) (D : va_G) (cI cZ : ClassId) (th0 : Nat) (th1 : Nat) (th2 : Nat) (th3 : Nat) (th4 : Nat) (th5 : Nat) (th6 : Nat) (th7 : Nat) (th8 : Nat) (th9 : Nat) (sz : Nat) (u_th : sM) (p1 : Int32) (z : Int32 × sM) (hf : f_X11_told u_th p1 = some z) : Met l yX11_told wsX11_told rmX11_told (va_Pc [.ref th0, .int p1] (wPr D cI cZ (ceM cI cZ th0 th1 th2 th3 th4 th5 th6 th7 th8 th9 u_th) sz)) (va_Qi (fun (r : Int32) (v : sM) => (r, v) = z) (fun (v : sM) t => wPo D cI cZ (va_A (ceM cI cZ th0 th1 th2 th3 th4 th5 th6 th7 th8 th9 u_th) sz) (ceM cI cZ th0 th1 th2 th3 th4 th5 th6 th7 th8 th9 v) t) (va_A (ceM cI cZ th0 th1 th2 th3 th4 th5 th6 th7 th8 th9 u_th) sz)) 0 0 (va_A (ceM cI cZ th0 th1 th2 th3 th4 th5 th6 th7 th8 th9 u_th) sz) := by
  refine k_enter (D := D) (cI := cI) (cZ := cZ) (wl := ceM cI cZ th0 th1 th2 th3 th4 th5 th6 th7 th8 th9 u_th) (sz := sz) (av := [.ref th0, .int p1]) (cc := cX11_told) (maxL := 4) (ret := (some .int)) (Qc := fun A => va_Qi (fun (r : Int32) (v : sM) => (r, v) = z) (fun (v : sM) t => wPo D cI cZ (A) (ceM cI cZ th0 th1 th2 th3 th4 th5 th6 th7 th8 th9 v) t) (A)) (by decide) rfl (Nat.le_of_ble_eq_true rfl) ?_
  intro p e s m below meth c ls A Q H locs eQ hx hb hr hml hts hown hlocks hK hP hD hS hA hE hl
  have hown : s.vm.findClass RX11 = some m.cls := hown
  have hl : lv_has ls 4 [(0, .ref th0), (1, .int p1)] := hl
  have hi_X11 : ∀ w ∈ wsX110, w ∈ wsX11_told := fun w h => List.mem_cons_of_mem _ (List.mem_append_right _ h)
  have hL95 : ∀ (n : Nat), ∀ (v2 : Int32) (v3 : Int32) (u_th : sM) (H : Heap) (locs : List Loc) (ls : Array Slot), lv_has ls 4 [(0, .ref th0), (2, .int v2), (3, .int v3)] → va_P D vwCl (ceM cI cZ th0 th1 th2 th3 th4 th5 th6 th7 th8 th9 u_th) H → va_D A (ceM cI cZ th0 th1 th2 th3 th4 th5 th6 th7 th8 th9 u_th) → va_S A s.heap H locs → f_X11_told_L95 n v2 v3 u_th = some z → W p l e (headSpec wsX11_told rmX11_told).room s m ([.ref th0, .int p1] : List Value).toArray below meth c H locs 0 0 Q (F0 m 95 ls []) := by
    intro n
    induction n with
    | zero =>
      intro v2 v3 u_th H locs ls hl hP hD hS hf
      exact absurd (show (none : Option (Int32 × sM)) = some z from hf) (fun h => by cases h)
    | succ n ih =>
      intro v2 v3 u_th H locs ls hl hP hD hS hf
      rw [f_X11_told_L95] at hf
      refine lv_iload_n hx hb dX11_told_95 rfl (lv_at hl 2 rfl) ?_
      refine lv_bipush (v := 8) hx hb dX11_told_96 (by decide) ?_
      refine lv_icmp_ge (tgt := 126) hx hb dX11_told_98 (by decide) (fun c9 => ?_) (fun c9 => ?_)
      · have hf := (if_pos c9).symm.trans hf
        refine lv_iload_n hx hb dX11_told_126 rfl (lv_at hl 1 rfl) ?_
        exact k_iret (v := v2) (u := u_th) hx hb hr hlocks hK hS eQ hf hP hD dX11_told_127
      · have hf := (if_neg c9).symm.trans hf
        refine lv_iload_n hx hb dX11_told_101 rfl (lv_at hl 1 rfl) ?_
        refine lv_aload_n hx hb dX11_told_102 rfl (lv_at hl 0 rfl) ?_
        refine va_get (D := D) (ci := 8) (v := .ref th2) (C := RX11) (T := TX11) (N := 17) hx hb hts hi_X11 hown hK hP 0 rfl rfl 1 (by decide) (hts (.fieldLink RX11 13 "FairWheelModel" "sits" "[I") (List.mem_of_getElem? (i := 5) rfl)) (fun _ h9 => h9) rfl dX11_told_103 ?_
        refine lv_iload_n hx hb dX11_told_106 rfl (lv_at hl 2 rfl) ?_
        by_cases c10 : v3 < 0 ∨ 8 ≤ v3.toNatClampNeg
        · have hf := (if_pos c10).symm.trans hf
          cases hf
        have hf := (if_neg c10).symm.trans hf
        refine va_iald hx hb hK hP 2 0 rfl rfl (show vp_in v3 8 from c10) dX11_told_107 ?_
        refine lv_if_ge (tgt := 115) hx hb dX11_told_108 (by decide) (fun c11 => ?_) (fun c11 => ?_)
        · have hf := (if_pos c11).symm.trans hf
          refine lv_iconst (v := 1) hx hb dX11_told_115 (by decide) ?_
          refine lv_iload_n hx hb dX11_told_116 rfl (lv_at hl 2 rfl) ?_
          refine lv_ishl hx hb dX11_told_117 ?_
          refine lv_ior hx hb dX11_told_118 ?_
          refine lv_istore_n (lv' := [(2, .int (v2 ||| ((1 : Int32) <<< (v3 &&& 31)))), (0, .ref th0), (3, .int v3)]) hx hb dX11_told_119 rfl hl (by decide) rfl (fun ls hl => ?_)
          refine lv_iinc (v := (v3 + (1 : Int32))) (lv' := [(3, .int (v3 + (1 : Int32))), (2, .int (v2 ||| ((1 : Int32) <<< (v3 &&& 31)))), (0, .ref th0)]) hx hb dX11_told_120 hl (k := 2) rfl rfl (by decide) rfl (fun ls hl => ?_)
          refine lv_goto (tgt := 95) hx hb dX11_told_123 (by decide) ?_
          exact ih (v2 ||| ((1 : Int32) <<< (v3 &&& 31))) (v3 + (1 : Int32)) u_th _ _ ls (lv_sub hl [2, 1, 0] rfl) hP hD hS hf
        · have hf := (if_neg c11).symm.trans hf
          refine lv_iconst (v := 0) hx hb dX11_told_111 (by decide) ?_
          refine lv_goto (tgt := 118) hx hb dX11_told_112 (by decide) ?_
          refine lv_ior hx hb dX11_told_118 ?_
          refine lv_istore_n (lv' := [(2, .int (v2 ||| (0 : Int32))), (0, .ref th0), (3, .int v3)]) hx hb dX11_told_119 rfl hl (by decide) rfl (fun ls hl => ?_)
          refine lv_iinc (v := (v3 + (1 : Int32))) (lv' := [(3, .int (v3 + (1 : Int32))), (2, .int (v2 ||| (0 : Int32))), (0, .ref th0)]) hx hb dX11_told_120 hl (k := 2) rfl rfl (by decide) rfl (fun ls hl => ?_)
          refine lv_goto (tgt := 95) hx hb dX11_told_123 (by decide) ?_
          exact ih (v2 ||| (0 : Int32)) (v3 + (1 : Int32)) u_th _ _ ls (lv_sub hl [2, 1, 0] rfl) hP hD hS hf
  rw [f_X11_told] at hf
  refine lv_iload_n hx hb dX11_told_0 rfl (lv_at hl 1 rfl) ?_
  refine lv_bipush (v := 10) hx hb dX11_told_1 (by decide) ?_
  refine lv_bipush (v := 17) hx hb dX11_told_3 (by decide) ?_
  obtain ⟨z1, hz_z1, hf⟩ := o_bind hf
  refine k_calli (va_runS (As := [.int p1, .int (10 : Int32), .int (17 : Int32)]) (rest := []) ⟨hx, hb, hml, hown, hts⟩ (c_X11_in l D cI cZ  H.size p1 (10 : Int32) (17 : Int32) z1 hz_z1) (va_cwS 3 hts gX11_told_X11_in rfl rfl rfl hd_X11_in ⟨Nat.le_of_ble_eq_true rfl, Nat.le_of_ble_eq_true rfl⟩) (k_preS hK hP hD hS hA hE [] (by decide) rfl) rfl rfl hl.1 rfl (lv_room (Nat.le_of_ble_eq_true rfl)) dX11_told_5 ⟨Nat.zero_le _, Nat.zero_le _⟩) hP hD hS hA [] [none, none, none, none, none, none, none, none, none, none] 0 rfl (by decide) (by decide) rfl rfl (fun H locs hP hD hS => ?_)
  have hP : va_P D vwCl (ceM cI cZ th0 th1 th2 th3 th4 th5 th6 th7 th8 th9 u_th) H := hP
  have hD : va_D A (ceM cI cZ th0 th1 th2 th3 th4 th5 th6 th7 th8 th9 u_th) := hD
  refine lv_if_eq (tgt := 21) hx hb dX11_told_8 (by decide) (fun c2 => ?_) (fun c2 => ?_)
  · have hf := (if_pos c2).symm.trans hf
    refine lv_iload_n hx hb dX11_told_21 rfl (lv_at hl 1 rfl) ?_
    refine lv_bipush (v := 20) hx hb dX11_told_22 (by decide) ?_
    refine lv_bipush (v := 27) hx hb dX11_told_24 (by decide) ?_
    obtain ⟨z3, hz_z3, hf⟩ := o_bind hf
    refine k_calli (va_runS (As := [.int p1, .int (20 : Int32), .int (27 : Int32)]) (rest := []) ⟨hx, hb, hml, hown, hts⟩ (c_X11_in l D cI cZ  H.size p1 (20 : Int32) (27 : Int32) z3 hz_z3) (va_cwS 3 hts gX11_told_X11_in rfl rfl rfl hd_X11_in ⟨Nat.le_of_ble_eq_true rfl, Nat.le_of_ble_eq_true rfl⟩) (k_preS hK hP hD hS hA hE [] (by decide) rfl) rfl rfl hl.1 rfl (lv_room (Nat.le_of_ble_eq_true rfl)) dX11_told_26 ⟨Nat.zero_le _, Nat.zero_le _⟩) hP hD hS hA [] [none, none, none, none, none, none, none, none, none, none] 0 rfl (by decide) (by decide) rfl rfl (fun H locs hP hD hS => ?_)
    have hP : va_P D vwCl (ceM cI cZ th0 th1 th2 th3 th4 th5 th6 th7 th8 th9 u_th) H := hP
    have hD : va_D A (ceM cI cZ th0 th1 th2 th3 th4 th5 th6 th7 th8 th9 u_th) := hD
    refine lv_if_eq (tgt := 45) hx hb dX11_told_29 (by decide) (fun c4 => ?_) (fun c4 => ?_)
    · have hf := (if_pos c4).symm.trans hf
      refine lv_iload_n hx hb dX11_told_45 rfl (lv_at hl 1 rfl) ?_
      by_cases c5 : p1 = 0
      · have hf := (if_pos c5).symm.trans hf
        refine lv_tableIn hx hb dX11_told_46 (by rw [c5]; decide) (by rw [c5]; decide) (off := 30) (tgt := 76) (by rw [c5]; rfl) (by decide) ?_
        refine lv_aload_n hx hb dX11_told_76 rfl (lv_at hl 0 rfl) ?_
        refine va_get (D := D) (ci := 8) (v := .int (M_signs u_th)) (C := RX11) (T := TX11) (N := 17) hx hb hts hi_X11 hown hK hP 0 rfl rfl 7 (by decide) (hts (.fieldLink RX11 50 "FairWheelModel" "signs" "I") (List.mem_of_getElem? (i := 2) rfl)) (fun _ h9 => h9) rfl dX11_told_77 ?_
        exact k_iret (v := (M_signs u_th)) (u := u_th) hx hb hr hlocks hK hS eQ hf hP hD dX11_told_80
      have hf := (if_neg c5).symm.trans hf
      by_cases c6 : p1 = 1
      · have hf := (if_pos c6).symm.trans hf
        refine lv_tableIn hx hb dX11_told_46 (by rw [c6]; decide) (by rw [c6]; decide) (off := 35) (tgt := 81) (by rw [c6]; rfl) (by decide) ?_
        refine lv_aload_n hx hb dX11_told_81 rfl (lv_at hl 0 rfl) ?_
        refine va_get (D := D) (ci := 8) (v := .int (M_drag u_th)) (C := RX11) (T := TX11) (N := 17) hx hb hts hi_X11 hown hK hP 0 rfl rfl 4 (by decide) (hts (.fieldLink RX11 19 "FairWheelModel" "drag" "I") (List.mem_of_getElem? (i := 3) rfl)) (fun _ h9 => h9) rfl dX11_told_82 ?_
        exact k_iret (v := (M_drag u_th)) (u := u_th) hx hb hr hlocks hK hS eQ hf hP hD dX11_told_85
      have hf := (if_neg c6).symm.trans hf
      by_cases c7 : p1 = 2
      · have hf := (if_pos c7).symm.trans hf
        refine lv_tableIn hx hb dX11_told_46 (by rw [c7]; decide) (by rw [c7]; decide) (off := 40) (tgt := 86) (by rw [c7]; rfl) (by decide) ?_
        refine lv_aload_n hx hb dX11_told_86 rfl (lv_at hl 0 rfl) ?_
        refine va_get (D := D) (ci := 8) (v := .int (M_sights u_th)) (C := RX11) (T := TX11) (N := 17) hx hb hts hi_X11 hown hK hP 0 rfl rfl 5 (by decide) (hts (.fieldLink RX11 115 "FairWheelModel" "sights" "I") (List.mem_of_getElem? (i := 4) rfl)) (fun _ h9 => h9) rfl dX11_told_87 ?_
        exact k_iret (v := (M_sights u_th)) (u := u_th) hx hb hr hlocks hK hS eQ hf hP hD dX11_told_90
      have hf := (if_neg c7).symm.trans hf
      by_cases c8 : p1 = 3
      · have hf := (if_pos c8).symm.trans hf
        refine lv_tableIn hx hb dX11_told_46 (by rw [c8]; decide) (by rw [c8]; decide) (off := 45) (tgt := 91) (by rw [c8]; rfl) (by decide) ?_
        refine lv_iconst (v := 0) hx hb dX11_told_91 (by decide) ?_
        refine lv_istore_n (lv' := [(2, .int (0 : Int32)), (0, .ref th0), (1, .int p1)]) hx hb dX11_told_92 rfl hl (by decide) rfl (fun ls hl => ?_)
        refine lv_iconst (v := 0) hx hb dX11_told_93 (by decide) ?_
        refine lv_istore_n (lv' := [(3, .int (0 : Int32)), (2, .int (0 : Int32)), (0, .ref th0), (1, .int p1)]) hx hb dX11_told_94 rfl hl (by decide) rfl (fun ls hl => ?_)
        exact hL95 oF (0 : Int32) (0 : Int32) u_th _ _ ls (lv_sub hl [2, 1, 0] rfl) hP hD hS hf
      have hf := (if_neg c8).symm.trans hf
      refine lv_tableOut hx hb dX11_told_46 (tgt := 128) (by have q0 := lv_neT (a := 0) c5 rfl; have q1 := lv_neT (a := 1) c6 rfl; have q2 := lv_neT (a := 2) c7 rfl; have q3 := lv_neT (a := 3) c8 rfl; omega) (by decide) ?_
      refine lv_bipush (v := -2) hx hb dX11_told_128 (by decide) ?_
      exact k_iret (v := (-2 : Int32)) (u := u_th) hx hb hr hlocks hK hS eQ hf hP hD dX11_told_130
    · have hf := (if_neg c4).symm.trans hf
      refine lv_aload_n hx hb dX11_told_32 rfl (lv_at hl 0 rfl) ?_
      obtain ⟨z12, hz_z12, hf⟩ := o_bind hf
      refine k_callv (va_runV (As := []) (rest := []) ⟨hx, hb, hml, hown, hts⟩ (c_X11_asNow l D cI cZ th0 th1 th2 th3 th4 th5 th6 th7 th8 th9 H.size u_th z12 hz_z12) (cwV 0 hts gX11_told_X11_asNow rfl rfl rfl ⟨rfl, hd_X11_asNow⟩ ⟨Nat.le_of_ble_eq_true rfl, Nat.le_of_ble_eq_true rfl⟩) (k_preV hK hP hD hS hA hE [0, 1, 2, 3, 4, 5, 6, 7, 8, 9] (by decide) rfl (ci := 8) rfl rfl) rfl rfl hl.1 rfl (lv_room (Nat.le_of_ble_eq_true rfl)) dX11_told_33 ⟨Nat.zero_le _, Nat.zero_le _⟩) hP hD hS hA [0, 1, 2, 3, 4, 5, 6, 7, 8, 9] [some 0, some 1, some 2, some 3, some 4, some 5, some 6, some 7, some 8, some 9] 10 rfl (by decide) (by decide) rfl rfl (fun H locs hP hD hS => ?_)
      have hP : va_P D vwCl (ceM cI cZ th0 th1 th2 th3 th4 th5 th6 th7 th8 th9 z12) H := hP
      have hD : va_D A (ceM cI cZ th0 th1 th2 th3 th4 th5 th6 th7 th8 th9 z12) := hD
      refine lv_aload_n hx hb dX11_told_36 rfl (lv_at hl 0 rfl) ?_
      refine lv_iload_n hx hb dX11_told_37 rfl (lv_at hl 1 rfl) ?_
      refine lv_bipush (v := 20) hx hb dX11_told_38 (by decide) ?_
      refine lv_isub hx hb dX11_told_40 ?_
      obtain ⟨z13, hz_z13, hf⟩ := o_bind hf
      refine k_calli (va_runV (As := [.int (p1 - (20 : Int32))]) (rest := []) ⟨hx, hb, hml, hown, hts⟩ (c_X11_carOf l D cI cZ th0 th1 th2 th3 th4 th5 th6 th7 th8 th9 H.size z12 (p1 - (20 : Int32)) z13 hz_z13) (cwV 1 hts gX11_told_X11_carOf rfl rfl rfl ⟨rfl, hd_X11_carOf⟩ ⟨Nat.le_of_ble_eq_true rfl, Nat.le_of_ble_eq_true rfl⟩) (k_preV hK hP hD hS hA hE [0, 1, 2, 3, 4, 5, 6, 7, 8, 9] (by decide) rfl (ci := 8) rfl rfl) rfl rfl hl.1 rfl (lv_room (Nat.le_of_ble_eq_true rfl)) dX11_told_41 ⟨Nat.zero_le _, Nat.zero_le _⟩) hP hD hS hA [0, 1, 2, 3, 4, 5, 6, 7, 8, 9] [some 0, some 1, some 2, some 3, some 4, some 5, some 6, some 7, some 8, some 9] 10 rfl (by decide) (by decide) rfl rfl (fun H locs hP hD hS => ?_)
      have hP : va_P D vwCl (ceM cI cZ th0 th1 th2 th3 th4 th5 th6 th7 th8 th9 z12) H := hP
      have hD : va_D A (ceM cI cZ th0 th1 th2 th3 th4 th5 th6 th7 th8 th9 z12) := hD
      exact k_iret (v := z13.1) (u := z12) hx hb hr hlocks hK hS eQ hf hP hD dX11_told_44
  · have hf := (if_neg c2).symm.trans hf
    refine lv_aload_n hx hb dX11_told_11 rfl (lv_at hl 0 rfl) ?_
    refine va_get (D := D) (ci := 8) (v := .ref th1) (C := RX11) (T := TX11) (N := 17) hx hb hts hi_X11 hown hK hP 0 rfl rfl 0 (by decide) (hts (.fieldLink RX11 7 "FairWheelModel" "weight" "[I") (List.mem_of_getElem? (i := 1) rfl)) (fun _ h9 => h9) rfl dX11_told_12 ?_
    refine lv_iload_n hx hb dX11_told_15 rfl (lv_at hl 1 rfl) ?_
    refine lv_bipush (v := 10) hx hb dX11_told_16 (by decide) ?_
    refine lv_isub hx hb dX11_told_18 ?_
    by_cases c14 : (p1 - (10 : Int32)) < 0 ∨ 8 ≤ (p1 - (10 : Int32)).toNatClampNeg
    · have hf := (if_pos c14).symm.trans hf
      cases hf
    have hf := (if_neg c14).symm.trans hf
    refine va_iald hx hb hK hP 1 0 rfl rfl (show vp_in (p1 - (10 : Int32)) 8 from c14) dX11_told_19 ?_
    exact k_iret (v := ((M_weight u_th) (p1 - (10 : Int32)).toNatClampNeg)) (u := u_th) hx hb hr hlocks hK hS eQ hf hP hD dX11_told_20
