theorem hd_X11_move : yX11_move.cls ≠ "java/lang/invoke/MethodHandle" ∧ yX11_move.cls ≠ "java/lang/invoke/VarHandle" ∧ (parseMethodDescriptor yX11_move.desc).map (fun d => d.parameters.length) = some 1 := by decide +kernel
set_option maxHeartbeats 4000000 in
set_option maxRecDepth 100000 in
theorem c_X11_move (l : Launch) (D : va_G) (cI cZ : ClassId) (th0 : Nat) (th1 : Nat) (th2 : Nat) (th3 : Nat) (th4 : Nat) (th5 : Nat) (th6 : Nat) (th7 : Nat) (th8 : Nat) (th9 : Nat) (sz : Nat) (u_th : sM) (p1 : Int32) (z : Int32 × sM) (hf : f_X11_move u_th p1 = some z) : Met l yX11_move wsX11_move rmX11_move (va_Pc [.ref th0, .int p1] (wPr D cI cZ (ceM cI cZ th0 th1 th2 th3 th4 th5 th6 th7 th8 th9 u_th) sz)) (va_Qi (fun (r : Int32) (v : sM) => (r, v) = z) (fun (v : sM) t => wPo D cI cZ (va_A (ceM cI cZ th0 th1 th2 th3 th4 th5 th6 th7 th8 th9 u_th) sz) (ceM cI cZ th0 th1 th2 th3 th4 th5 th6 th7 th8 th9 v) t) (va_A (ceM cI cZ th0 th1 th2 th3 th4 th5 th6 th7 th8 th9 u_th) sz)) 0 0 (va_A (ceM cI cZ th0 th1 th2 th3 th4 th5 th6 th7 th8 th9 u_th) sz) := by
  refine k_enter (D := D) (cI := cI) (cZ := cZ) (wl := ceM cI cZ th0 th1 th2 th3 th4 th5 th6 th7 th8 th9 u_th) (sz := sz) (av := [.ref th0, .int p1]) (cc := cX11_move) (maxL := 4) (ret := (some .boolean)) (Qc := fun A => va_Qi (fun (r : Int32) (v : sM) => (r, v) = z) (fun (v : sM) t => wPo D cI cZ (A) (ceM cI cZ th0 th1 th2 th3 th4 th5 th6 th7 th8 th9 v) t) (A)) (by decide) rfl (Nat.le_of_ble_eq_true rfl) ?_
  intro p e s m below meth c ls A Q H locs eQ hx hb hr hml hts hown hlocks hK hP hD hS hA hE hl
  have hown : s.vm.findClass RX11 = some m.cls := hown
  have hl : lv_has ls 4 [(0, .ref th0), (1, .int p1)] := hl
  have hi_X11 : ∀ w ∈ wsX110, w ∈ wsX11_move := fun w h => List.mem_cons_of_mem _ (List.mem_append_right _ h)
  have hJ100 : ∀ (u_th : sM) (H : Heap) (locs : List Loc) (ls : Array Slot), lv_has ls 4 [(0, .ref th0)] → va_P D vwCl (ceM cI cZ th0 th1 th2 th3 th4 th5 th6 th7 th8 th9 u_th) H → va_D A (ceM cI cZ th0 th1 th2 th3 th4 th5 th6 th7 th8 th9 u_th) → va_S A s.heap H locs → f_X11_move_J100 u_th = some z → W p l e (headSpec wsX11_move rmX11_move).room s m ([.ref th0, .int p1] : List Value).toArray below meth c H locs 0 0 Q (F0 m 100 ls []) := by
    intro  u_th H locs ls hl hP hD hS hf
    rw [f_X11_move_J100] at hf
    refine lv_aload_n hx hb dX11_move_100 rfl (lv_at hl 0 rfl) ?_
    obtain ⟨z7, hz_z7, hf⟩ := o_bind hf
    refine k_callv (va_runV (As := []) (rest := []) ⟨hx, hb, hml, hown, hts⟩ (c_X11_letGo l D cI cZ th0 th1 th2 th3 th4 th5 th6 th7 th8 th9 H.size u_th z7 hz_z7) (cwV 0 hts gX11_move_X11_letGo rfl rfl rfl ⟨rfl, hd_X11_letGo⟩ ⟨Nat.le_of_ble_eq_true rfl, Nat.le_of_ble_eq_true rfl⟩) (k_preV hK hP hD hS hA hE [0, 1, 2, 3, 4, 5, 6, 7, 8, 9] (by decide) rfl (ci := 8) rfl rfl) rfl rfl hl.1 rfl (lv_room (Nat.le_of_ble_eq_true rfl)) dX11_move_101 ⟨Nat.zero_le _, Nat.zero_le _⟩) hP hD hS hA [0, 1, 2, 3, 4, 5, 6, 7, 8, 9] [some 0, some 1, some 2, some 3, some 4, some 5, some 6, some 7, some 8, some 9] 10 rfl (by decide) (by decide) rfl rfl (fun H locs hP hD hS => ?_)
    have hP : va_P D vwCl (ceM cI cZ th0 th1 th2 th3 th4 th5 th6 th7 th8 th9 z7) H := hP
    have hD : va_D A (ceM cI cZ th0 th1 th2 th3 th4 th5 th6 th7 th8 th9 z7) := hD
    refine lv_iconst (v := 1) hx hb dX11_move_104 (by decide) ?_
    exact k_zret (v := (1 : Int32)) (u := z7) hx hb hr hlocks hK hS eQ (by decide) hf hP hD dX11_move_105
  have hJ61 : ∀ (v2 : Int32) (s1 : Int32) (s2 : Int32) (u_th : sM) (H : Heap) (locs : List Loc) (ls : Array Slot), lv_has ls 4 [(0, .ref th0), (2, .int v2)] → va_P D vwCl (ceM cI cZ th0 th1 th2 th3 th4 th5 th6 th7 th8 th9 u_th) H → va_D A (ceM cI cZ th0 th1 th2 th3 th4 th5 th6 th7 th8 th9 u_th) → va_S A s.heap H locs → f_X11_move_J61 v2 s1 s2 u_th = some z → W p l e (headSpec wsX11_move rmX11_move).room s m ([.ref th0, .int p1] : List Value).toArray below meth c H locs 0 0 Q (F0 m 61 ls [.int s2, .int s1, .ref th6]) := by
    intro  v2 s1 s2 u_th H locs ls hl hP hD hS hf
    rw [f_X11_move_J61] at hf
    by_cases c5 : s1 < 0 ∨ 8 ≤ s1.toNatClampNeg
    · have hf := (if_pos c5).symm.trans hf
      cases hf
    have hf := (if_neg c5).symm.trans hf
    refine va_iast hx hb hK hP hD hS 6 0 rfl rfl (show vp_in s1 8 from c5) dX11_move_61 (fun H locs hP hD hS => ?_)
    have hP : va_P D vwCl (ceM cI cZ th0 th1 th2 th3 th4 th5 th6 th7 th8 th9 ((M_weight u_th), (M_sits u_th), (M_stones u_th), (M_at u_th), (M_drag u_th), (M_sights u_th), (M_sight u_th), (M_signs u_th), (M_pad u_th), (M_foot u_th), (M_turned u_th), (M_bothWays u_th), (upd (M_now u_th) s1.toNatClampNeg s2), (M_heap u_th), (M_reason u_th), (M_image u_th), (M_isKept u_th))) H := hP
    have hD : va_D A (ceM cI cZ th0 th1 th2 th3 th4 th5 th6 th7 th8 th9 ((M_weight u_th), (M_sits u_th), (M_stones u_th), (M_at u_th), (M_drag u_th), (M_sights u_th), (M_sight u_th), (M_signs u_th), (M_pad u_th), (M_foot u_th), (M_turned u_th), (M_bothWays u_th), (upd (M_now u_th) s1.toNatClampNeg s2), (M_heap u_th), (M_reason u_th), (M_image u_th), (M_isKept u_th))) := hD
    refine lv_iload_n hx hb dX11_move_62 rfl (lv_at hl 1 rfl) ?_
    refine lv_bipush (v := 8) hx hb dX11_move_63 (by decide) ?_
    refine lv_icmp_ge (tgt := 100) hx hb dX11_move_65 (by decide) (fun c6 => ?_) (fun c6 => ?_)
    · have hf := (if_pos c6).symm.trans hf
      exact hJ100 ((M_weight u_th), (M_sits u_th), (M_stones u_th), (M_at u_th), (M_drag u_th), (M_sights u_th), (M_sight u_th), (M_signs u_th), (M_pad u_th), (M_foot u_th), (M_turned u_th), (M_bothWays u_th), (upd (M_now u_th) s1.toNatClampNeg s2), (M_heap u_th), (M_reason u_th), (M_image u_th), (M_isKept u_th)) _ _ ls (lv_sub hl [0] rfl) hP hD hS hf
    · have hf := (if_neg c6).symm.trans hf
      refine lv_aload_n hx hb dX11_move_68 rfl (lv_at hl 0 rfl) ?_
      refine va_get (D := D) (ci := 8) (v := .ref th6) (C := RX11) (T := TX11) (N := 17) hx hb hts hi_X11 hown hK hP 0 rfl rfl 12 (by decide) (hts (.fieldLink RX11 29 "FairWheelModel" "now" "[I") (List.mem_of_getElem? (i := 1) rfl)) (fun _ h9 => h9) rfl dX11_move_69 ?_
      refine lv_aload_n hx hb dX11_move_72 rfl (lv_at hl 0 rfl) ?_
      refine va_get (D := D) (ci := 8) (v := .int (M_foot u_th)) (C := RX11) (T := TX11) (N := 17) hx hb hts hi_X11 hown hK hP 0 rfl rfl 9 (by decide) (hts (.fieldLink RX11 60 "FairWheelModel" "foot" "I") (List.mem_of_getElem? (i := 2) rfl)) (fun _ h9 => h9) rfl dX11_move_73 ?_
      by_cases c8 : (M_foot u_th) < 0 ∨ 8 ≤ (M_foot u_th).toNatClampNeg
      · have hf := (if_pos c8).symm.trans hf
        cases hf
      have hf := (if_neg c8).symm.trans hf
      refine va_iald hx hb hK hP 6 0 rfl rfl (show vp_in (M_foot u_th) 8 from c8) dX11_move_76 ?_
      refine lv_if_ge (tgt := 88) hx hb dX11_move_77 (by decide) (fun c9 => ?_) (fun c9 => ?_)
      · have hf := (if_pos c9).symm.trans hf
        refine lv_iconst (v := 0) hx hb dX11_move_88 (by decide) ?_
        exact k_zret (v := (0 : Int32)) (u := ((M_weight u_th), (M_sits u_th), (M_stones u_th), (M_at u_th), (M_drag u_th), (M_sights u_th), (M_sight u_th), (M_signs u_th), (M_pad u_th), (M_foot u_th), (M_turned u_th), (M_bothWays u_th), (upd (M_now u_th) s1.toNatClampNeg s2), (M_heap u_th), (M_reason u_th), (M_image u_th), (M_isKept u_th))) hx hb hr hlocks hK hS eQ (by decide) hf hP hD dX11_move_89
      · have hf := (if_neg c9).symm.trans hf
        refine lv_aload_n hx hb dX11_move_80 rfl (lv_at hl 0 rfl) ?_
        refine lv_iload_n hx hb dX11_move_81 rfl (lv_at hl 1 rfl) ?_
        obtain ⟨z10, hz_z10, hf⟩ := o_bind hf
        refine k_calli (va_runV (As := [.int v2]) (rest := []) ⟨hx, hb, hml, hown, hts⟩ (c_X11_carOf l D cI cZ th0 th1 th2 th3 th4 th5 th6 th7 th8 th9 H.size ((M_weight u_th), (M_sits u_th), (M_stones u_th), (M_at u_th), (M_drag u_th), (M_sights u_th), (M_sight u_th), (M_signs u_th), (M_pad u_th), (M_foot u_th), (M_turned u_th), (M_bothWays u_th), (upd (M_now u_th) s1.toNatClampNeg s2), (M_heap u_th), (M_reason u_th), (M_image u_th), (M_isKept u_th)) v2 z10 hz_z10) (cwV 1 hts gX11_move_X11_carOf rfl rfl rfl ⟨rfl, hd_X11_carOf⟩ ⟨Nat.le_of_ble_eq_true rfl, Nat.le_of_ble_eq_true rfl⟩) (k_preV hK hP hD hS hA hE [0, 1, 2, 3, 4, 5, 6, 7, 8, 9] (by decide) rfl (ci := 8) rfl rfl) rfl rfl hl.1 rfl (lv_room (Nat.le_of_ble_eq_true rfl)) dX11_move_82 ⟨Nat.zero_le _, Nat.zero_le _⟩) hP hD hS hA [0, 1, 2, 3, 4, 5, 6, 7, 8, 9] [some 0, some 1, some 2, some 3, some 4, some 5, some 6, some 7, some 8, some 9] 10 rfl (by decide) (by decide) rfl rfl (fun H locs hP hD hS => ?_)
        have hP : va_P D vwCl (ceM cI cZ th0 th1 th2 th3 th4 th5 th6 th7 th8 th9 ((M_weight u_th), (M_sits u_th), (M_stones u_th), (M_at u_th), (M_drag u_th), (M_sights u_th), (M_sight u_th), (M_signs u_th), (M_pad u_th), (M_foot u_th), (M_turned u_th), (M_bothWays u_th), (upd (M_now u_th) s1.toNatClampNeg s2), (M_heap u_th), (M_reason u_th), (M_image u_th), (M_isKept u_th))) H := hP
        have hD : va_D A (ceM cI cZ th0 th1 th2 th3 th4 th5 th6 th7 th8 th9 ((M_weight u_th), (M_sits u_th), (M_stones u_th), (M_at u_th), (M_drag u_th), (M_sights u_th), (M_sight u_th), (M_signs u_th), (M_pad u_th), (M_foot u_th), (M_turned u_th), (M_bothWays u_th), (upd (M_now u_th) s1.toNatClampNeg s2), (M_heap u_th), (M_reason u_th), (M_image u_th), (M_isKept u_th))) := hD
        refine lv_if_lt (tgt := 90) hx hb dX11_move_85 (by decide) (fun c11 => ?_) (fun c11 => ?_)
        · have hf := (if_pos c11).symm.trans hf
          refine lv_aload_n hx hb dX11_move_90 rfl (lv_at hl 0 rfl) ?_
          refine va_get (D := D) (ci := 8) (v := .ref th6) (C := RX11) (T := TX11) (N := 17) hx hb hts hi_X11 hown hK hP 0 rfl rfl 12 (by decide) (hts (.fieldLink RX11 29 "FairWheelModel" "now" "[I") (List.mem_of_getElem? (i := 1) rfl)) (fun _ h9 => h9) rfl dX11_move_91 ?_
          refine lv_aload_n hx hb dX11_move_94 rfl (lv_at hl 0 rfl) ?_
          refine va_get (D := D) (ci := 8) (v := .int (M_foot u_th)) (C := RX11) (T := TX11) (N := 17) hx hb hts hi_X11 hown hK hP 0 rfl rfl 9 (by decide) (hts (.fieldLink RX11 60 "FairWheelModel" "foot" "I") (List.mem_of_getElem? (i := 2) rfl)) (fun _ h9 => h9) rfl dX11_move_95 ?_
          refine lv_iload_n hx hb dX11_move_98 rfl (lv_at hl 1 rfl) ?_
          by_cases c12 : (M_foot u_th) < 0 ∨ 8 ≤ (M_foot u_th).toNatClampNeg
          · have hf := (if_pos c12).symm.trans hf
            cases hf
          have hf := (if_neg c12).symm.trans hf
          refine va_iast hx hb hK hP hD hS 6 0 rfl rfl (show vp_in (M_foot u_th) 8 from c12) dX11_move_99 (fun H locs hP hD hS => ?_)
          have hP : va_P D vwCl (ceM cI cZ th0 th1 th2 th3 th4 th5 th6 th7 th8 th9 ((M_weight u_th), (M_sits u_th), (M_stones u_th), (M_at u_th), (M_drag u_th), (M_sights u_th), (M_sight u_th), (M_signs u_th), (M_pad u_th), (M_foot u_th), (M_turned u_th), (M_bothWays u_th), (upd (upd (M_now u_th) s1.toNatClampNeg s2) (M_foot u_th).toNatClampNeg v2), (M_heap u_th), (M_reason u_th), (M_image u_th), (M_isKept u_th))) H := hP
          have hD : va_D A (ceM cI cZ th0 th1 th2 th3 th4 th5 th6 th7 th8 th9 ((M_weight u_th), (M_sits u_th), (M_stones u_th), (M_at u_th), (M_drag u_th), (M_sights u_th), (M_sight u_th), (M_signs u_th), (M_pad u_th), (M_foot u_th), (M_turned u_th), (M_bothWays u_th), (upd (upd (M_now u_th) s1.toNatClampNeg s2) (M_foot u_th).toNatClampNeg v2), (M_heap u_th), (M_reason u_th), (M_image u_th), (M_isKept u_th))) := hD
          exact hJ100 ((M_weight u_th), (M_sits u_th), (M_stones u_th), (M_at u_th), (M_drag u_th), (M_sights u_th), (M_sight u_th), (M_signs u_th), (M_pad u_th), (M_foot u_th), (M_turned u_th), (M_bothWays u_th), (upd (upd (M_now u_th) s1.toNatClampNeg s2) (M_foot u_th).toNatClampNeg v2), (M_heap u_th), (M_reason u_th), (M_image u_th), (M_isKept u_th)) _ _ ls (lv_sub hl [0] rfl) hP hD hS hf
        · have hf := (if_neg c11).symm.trans hf
          refine lv_iconst (v := 0) hx hb dX11_move_88 (by decide) ?_
          exact k_zret (v := (0 : Int32)) (u := ((M_weight u_th), (M_sits u_th), (M_stones u_th), (M_at u_th), (M_drag u_th), (M_sights u_th), (M_sight u_th), (M_signs u_th), (M_pad u_th), (M_foot u_th), (M_turned u_th), (M_bothWays u_th), (upd (M_now u_th) s1.toNatClampNeg s2), (M_heap u_th), (M_reason u_th), (M_image u_th), (M_isKept u_th))) hx hb hr hlocks hK hS eQ (by decide) hf hP hD dX11_move_89
  have hJ35 : ∀ (v2 : Int32) (v3 : Int32) (u_th : sM) (H : Heap) (locs : List Loc) (ls : Array Slot), lv_has ls 4 [(0, .ref th0), (2, .int v2), (3, .int v3)] → va_P D vwCl (ceM cI cZ th0 th1 th2 th3 th4 th5 th6 th7 th8 th9 u_th) H → va_D A (ceM cI cZ th0 th1 th2 th3 th4 th5 th6 th7 th8 th9 u_th) → va_S A s.heap H locs → f_X11_move_J35 v2 v3 u_th = some z → W p l e (headSpec wsX11_move rmX11_move).room s m ([.ref th0, .int p1] : List Value).toArray below meth c H locs 0 0 Q (F0 m 35 ls []) := by
    intro  v2 v3 u_th H locs ls hl hP hD hS hf
    rw [f_X11_move_J35] at hf
    refine lv_aload_n hx hb dX11_move_35 rfl (lv_at hl 0 rfl) ?_
    refine va_get (D := D) (ci := 8) (v := .ref th6) (C := RX11) (T := TX11) (N := 17) hx hb hts hi_X11 hown hK hP 0 rfl rfl 12 (by decide) (hts (.fieldLink RX11 29 "FairWheelModel" "now" "[I") (List.mem_of_getElem? (i := 1) rfl)) (fun _ h9 => h9) rfl dX11_move_36 ?_
    refine lv_aload_n hx hb dX11_move_39 rfl (lv_at hl 0 rfl) ?_
    refine va_get (D := D) (ci := 8) (v := .int (M_foot u_th)) (C := RX11) (T := TX11) (N := 17) hx hb hts hi_X11 hown hK hP 0 rfl rfl 9 (by decide) (hts (.fieldLink RX11 60 "FairWheelModel" "foot" "I") (List.mem_of_getElem? (i := 2) rfl)) (fun _ h9 => h9) rfl dX11_move_40 ?_
    refine lv_iload_n hx hb dX11_move_43 rfl (lv_at hl 2 rfl) ?_
    refine lv_if_eq (tgt := 52) hx hb dX11_move_44 (by decide) (fun c3 => ?_) (fun c3 => ?_)
    · have hf := (if_pos c3).symm.trans hf
      refine lv_aload_n hx hb dX11_move_52 rfl (lv_at hl 0 rfl) ?_
      refine va_get (D := D) (ci := 8) (v := .ref th6) (C := RX11) (T := TX11) (N := 17) hx hb hts hi_X11 hown hK hP 0 rfl rfl 12 (by decide) (hts (.fieldLink RX11 29 "FairWheelModel" "now" "[I") (List.mem_of_getElem? (i := 1) rfl)) (fun _ h9 => h9) rfl dX11_move_53 ?_
      refine lv_aload_n hx hb dX11_move_56 rfl (lv_at hl 0 rfl) ?_
      refine va_get (D := D) (ci := 8) (v := .int (M_foot u_th)) (C := RX11) (T := TX11) (N := 17) hx hb hts hi_X11 hown hK hP 0 rfl rfl 9 (by decide) (hts (.fieldLink RX11 60 "FairWheelModel" "foot" "I") (List.mem_of_getElem? (i := 2) rfl)) (fun _ h9 => h9) rfl dX11_move_57 ?_
      by_cases c4 : (M_foot u_th) < 0 ∨ 8 ≤ (M_foot u_th).toNatClampNeg
      · have hf := (if_pos c4).symm.trans hf
        cases hf
      have hf := (if_neg c4).symm.trans hf
      refine va_iald hx hb hK hP 6 0 rfl rfl (show vp_in (M_foot u_th) 8 from c4) dX11_move_60 ?_
      exact hJ61 v2 (M_foot u_th) ((M_now u_th) (M_foot u_th).toNatClampNeg) u_th _ _ ls (lv_sub hl [0, 1] rfl) hP hD hS hf
    · have hf := (if_neg c3).symm.trans hf
      refine lv_bipush (v := -6) hx hb dX11_move_47 (by decide) ?_
      refine lv_goto (tgt := 61) hx hb dX11_move_49 (by decide) ?_
      exact hJ61 v2 (M_foot u_th) (-6 : Int32) u_th _ _ ls (lv_sub hl [0, 1] rfl) hP hD hS hf
  have hJ16 : ∀ (v2 : Int32) (s0 : Int32) (u_th : sM) (H : Heap) (locs : List Loc) (ls : Array Slot), lv_has ls 4 [(0, .ref th0), (2, .int v2)] → va_P D vwCl (ceM cI cZ th0 th1 th2 th3 th4 th5 th6 th7 th8 th9 u_th) H → va_D A (ceM cI cZ th0 th1 th2 th3 th4 th5 th6 th7 th8 th9 u_th) → va_S A s.heap H locs → f_X11_move_J16 v2 s0 u_th = some z → W p l e (headSpec wsX11_move rmX11_move).room s m ([.ref th0, .int p1] : List Value).toArray below meth c H locs 0 0 Q (F0 m 16 ls [.int s0]) := by
    intro  v2 s0 u_th H locs ls hl hP hD hS hf
    rw [f_X11_move_J16] at hf
    refine lv_istore_n (lv' := [(3, .int s0), (0, .ref th0), (2, .int v2)]) hx hb dX11_move_16 rfl hl (by decide) rfl (fun ls hl => ?_)
    refine lv_iload_n hx hb dX11_move_17 rfl (lv_at hl 0 rfl) ?_
    refine lv_if_eq (tgt := 35) hx hb dX11_move_18 (by decide) (fun c2 => ?_) (fun c2 => ?_)
    · have hf := (if_pos c2).symm.trans hf
      exact hJ35 v2 s0 u_th _ _ ls (lv_sub hl [1, 2, 0] rfl) hP hD hS hf
    · have hf := (if_neg c2).symm.trans hf
      refine lv_aload_n hx hb dX11_move_21 rfl (lv_at hl 1 rfl) ?_
      refine va_get (D := D) (ci := 8) (v := .ref th6) (C := RX11) (T := TX11) (N := 17) hx hb hts hi_X11 hown hK hP 0 rfl rfl 12 (by decide) (hts (.fieldLink RX11 29 "FairWheelModel" "now" "[I") (List.mem_of_getElem? (i := 1) rfl)) (fun _ h9 => h9) rfl dX11_move_22 ?_
      refine lv_aload_n hx hb dX11_move_25 rfl (lv_at hl 1 rfl) ?_
      refine va_get (D := D) (ci := 8) (v := .int (M_foot u_th)) (C := RX11) (T := TX11) (N := 17) hx hb hts hi_X11 hown hK hP 0 rfl rfl 9 (by decide) (hts (.fieldLink RX11 60 "FairWheelModel" "foot" "I") (List.mem_of_getElem? (i := 2) rfl)) (fun _ h9 => h9) rfl dX11_move_26 ?_
      by_cases c13 : (M_foot u_th) < 0 ∨ 8 ≤ (M_foot u_th).toNatClampNeg
      · have hf := (if_pos c13).symm.trans hf
        cases hf
      have hf := (if_neg c13).symm.trans hf
      refine va_iald hx hb hK hP 6 0 rfl rfl (show vp_in (M_foot u_th) 8 from c13) dX11_move_29 ?_
      refine lv_if_ge (tgt := 35) hx hb dX11_move_30 (by decide) (fun c14 => ?_) (fun c14 => ?_)
      · have hf := (if_pos c14).symm.trans hf
        exact hJ35 v2 s0 u_th _ _ ls (lv_sub hl [1, 2, 0] rfl) hP hD hS hf
      · have hf := (if_neg c14).symm.trans hf
        refine lv_iconst (v := 0) hx hb dX11_move_33 (by decide) ?_
        exact k_zret (v := (0 : Int32)) (u := u_th) hx hb hr hlocks hK hS eQ (by decide) hf hP hD dX11_move_34
  rw [f_X11_move] at hf
  refine lv_iload_n hx hb dX11_move_0 rfl (lv_at hl 1 rfl) ?_
  refine lv_iconst (v := 2) hx hb dX11_move_1 (by decide) ?_
  refine lv_idiv hx hb dX11_move_2 (by decide) ?_
  refine lv_istore_n (lv' := [(2, .int (p1 / (2 : Int32))), (0, .ref th0), (1, .int p1)]) hx hb dX11_move_3 rfl hl (by decide) rfl (fun ls hl => ?_)
  refine lv_iload_n hx hb dX11_move_4 rfl (lv_at hl 2 rfl) ?_
  refine lv_iconst (v := 2) hx hb dX11_move_5 (by decide) ?_
  refine lv_irem hx hb dX11_move_6 (by decide) ?_
  refine lv_iconst (v := 1) hx hb dX11_move_7 (by decide) ?_
  refine lv_icmp_ne (tgt := 15) hx hb dX11_move_8 (by decide) (fun c1 => ?_) (fun c1 => ?_)
  · have hf := (if_neg c1).symm.trans hf
    refine lv_iconst (v := 0) hx hb dX11_move_15 (by decide) ?_
    exact hJ16 (p1 / (2 : Int32)) (0 : Int32) u_th _ _ ls (lv_sub hl [1, 0] rfl) hP hD hS hf
  · have hf := (if_pos c1).symm.trans hf
    refine lv_iconst (v := 1) hx hb dX11_move_11 (by decide) ?_
    refine lv_goto (tgt := 16) hx hb dX11_move_12 (by decide) ?_
    exact hJ16 (p1 / (2 : Int32)) (1 : Int32) u_th _ _ ls (lv_sub hl [1, 0] rfl) hP hD hS hf
theorem hd_X11_powerOf : yX11_powerOf.cls ≠ "java/lang/invoke/MethodHandle" ∧ yX11_powerOf.cls ≠ "java/lang/invoke/VarHandle" ∧ (parseMethodDescriptor yX11_powerOf.desc).map (fun d => d.parameters.length) = some 2 := by decide +kernel
set_option maxHeartbeats 4000000 in
set_option maxRecDepth 100000 in
theorem c_X11_powerOf (l : Launch) (D : va_G) (cI cZ : ClassId) (sz : Nat) (p0 : Int32) (p1 : Int32) (z : Int32 × Unit) (hf : f_X11_powerOf p0 p1 = some z) : Met l yX11_powerOf wsX11_powerOf rmX11_powerOf (va_Pc [.int p0, .int p1] (wPr D cI cZ (([] : va_W)) sz)) (va_Qi (fun (r : Int32) (v : Unit) => (r, v) = z) (fun (v : Unit) t => wPo D cI cZ (va_A (([] : va_W)) sz) (([] : va_W)) t) (va_A (([] : va_W)) sz)) 0 0 (va_A (([] : va_W)) sz) := by
  refine k_enter (D := D) (cI := cI) (cZ := cZ) (wl := ([] : va_W)) (sz := sz) (av := [.int p0, .int p1]) (cc := cX11_powerOf) (maxL := 4) (ret := (some .int)) (Qc := fun A => va_Qi (fun (r : Int32) (v : Unit) => (r, v) = z) (fun (v : Unit) t => wPo D cI cZ (A) (([] : va_W)) t) (A)) (by decide) rfl (Nat.le_of_ble_eq_true rfl) ?_
  intro p e s m below meth c ls A Q H locs eQ hx hb hr hml hts hown hlocks hK hP hD hS hA hE hl
  have hown : s.vm.findClass RX11 = some m.cls := hown
  have hl : lv_has ls 4 [(0, .int p0), (1, .int p1)] := hl
  have hL4 : ∀ (n : Nat), ∀ (v0 : Int32) (v1 : Int32) (v2 : Int32) (v3 : Int32) (H : Heap) (locs : List Loc) (ls : Array Slot), lv_has ls 4 [(0, .int v0), (1, .int v1), (2, .int v2), (3, .int v3)] → va_P D vwCl (([] : va_W)) H → va_D A (([] : va_W)) → va_S A s.heap H locs → f_X11_powerOf_L4 n v0 v1 v2 v3 = some z → W p l e (headSpec wsX11_powerOf rmX11_powerOf).room s m ([.int p0, .int p1] : List Value).toArray below meth c H locs 0 0 Q (F0 m 4 ls []) := by
    intro n
    induction n with
    | zero =>
      intro v0 v1 v2 v3 H locs ls hl hP hD hS hf
      exact absurd (show (none : Option (Int32 × Unit)) = some z from hf) (fun h => by cases h)
    | succ n ih =>
      intro v0 v1 v2 v3 H locs ls hl hP hD hS hf
      rw [f_X11_powerOf_L4] at hf
      refine lv_iload_n hx hb dX11_powerOf_4 rfl (lv_at hl 3 rfl) ?_
      refine lv_iload_n hx hb dX11_powerOf_5 rfl (lv_at hl 1 rfl) ?_
      refine lv_icmp_ge (tgt := 19) hx hb dX11_powerOf_6 (by decide) (fun c1 => ?_) (fun c1 => ?_)
      · have hf := (if_pos c1).symm.trans hf
        refine lv_iload_n hx hb dX11_powerOf_19 rfl (lv_at hl 2 rfl) ?_
        exact k_iret (v := v2) (u := ()) hx hb hr hlocks hK hS eQ hf hP hD dX11_powerOf_20
      · have hf := (if_neg c1).symm.trans hf
        refine lv_iload_n hx hb dX11_powerOf_9 rfl (lv_at hl 2 rfl) ?_
        refine lv_iload_n hx hb dX11_powerOf_10 rfl (lv_at hl 0 rfl) ?_
        refine lv_imul hx hb dX11_powerOf_11 ?_
        refine lv_istore_n (lv' := [(2, .int (v2 * v0)), (0, .int v0), (1, .int v1), (3, .int v3)]) hx hb dX11_powerOf_12 rfl hl (by decide) rfl (fun ls hl => ?_)
        refine lv_iinc (v := (v3 + (1 : Int32))) (lv' := [(3, .int (v3 + (1 : Int32))), (2, .int (v2 * v0)), (0, .int v0), (1, .int v1)]) hx hb dX11_powerOf_13 hl (k := 3) rfl rfl (by decide) rfl (fun ls hl => ?_)
        refine lv_goto (tgt := 4) hx hb dX11_powerOf_16 (by decide) ?_
        exact ih v0 v1 (v2 * v0) (v3 + (1 : Int32)) _ _ ls (lv_sub hl [2, 3, 1, 0] rfl) hP hD hS hf
  rw [f_X11_powerOf] at hf
  refine lv_iconst (v := 1) hx hb dX11_powerOf_0 (by decide) ?_
  refine lv_istore_n (lv' := [(2, .int (1 : Int32)), (0, .int p0), (1, .int p1)]) hx hb dX11_powerOf_1 rfl hl (by decide) rfl (fun ls hl => ?_)
  refine lv_iconst (v := 0) hx hb dX11_powerOf_2 (by decide) ?_
  refine lv_istore_n (lv' := [(3, .int (0 : Int32)), (2, .int (1 : Int32)), (0, .int p0), (1, .int p1)]) hx hb dX11_powerOf_3 rfl hl (by decide) rfl (fun ls hl => ?_)
  exact hL4 oF p0 p1 (1 : Int32) (0 : Int32) _ _ ls (lv_sub hl [2, 3, 1, 0] rfl) hP hD hS hf
theorem hd_X11_down : yX11_down.cls ≠ "java/lang/invoke/MethodHandle" ∧ yX11_down.cls ≠ "java/lang/invoke/VarHandle" ∧ (parseMethodDescriptor yX11_down.desc).map (fun d => d.parameters.length) = some 2 := by decide +kernel
set_option maxHeartbeats 4000000 in
set_option maxRecDepth 100000 in
theorem c_X11_down (l : Launch) (D : va_G) (cI cZ : ClassId) (th0 : Nat) (th1 : Nat) (th2 : Nat) (th3 : Nat) (th4 : Nat) (th5 : Nat) (th6 : Nat) (th7 : Nat) (th8 : Nat) (th9 : Nat) (sz : Nat) (u_th : sM) (p1 : Int32) (p2 : Int32) (z : Int32 × sM) (hf : f_X11_down u_th p1 p2 = some z) : Met l yX11_down wsX11_down rmX11_down (va_Pc [.ref th0, .int p1, .int p2] (wPr D cI cZ (ceM cI cZ th0 th1 th2 th3 th4 th5 th6 th7 th8 th9 u_th) sz)) (va_Qi (fun (r : Int32) (v : sM) => (r, v) = z) (fun (v : sM) t => wPo D cI cZ (va_A (ceM cI cZ th0 th1 th2 th3 th4 th5 th6 th7 th8 th9 u_th) sz) (ceM cI cZ th0 th1 th2 th3 th4 th5 th6 th7 th8 th9 v) t) (va_A (ceM cI cZ th0 th1 th2 th3 th4 th5 th6 th7 th8 th9 u_th) sz)) 0 0 (va_A (ceM cI cZ th0 th1 th2 th3 th4 th5 th6 th7 th8 th9 u_th) sz) := by
  refine k_enter (D := D) (cI := cI) (cZ := cZ) (wl := ceM cI cZ th0 th1 th2 th3 th4 th5 th6 th7 th8 th9 u_th) (sz := sz) (av := [.ref th0, .int p1, .int p2]) (cc := cX11_down) (maxL := 9) (ret := (some .int)) (Qc := fun A => va_Qi (fun (r : Int32) (v : sM) => (r, v) = z) (fun (v : sM) t => wPo D cI cZ (A) (ceM cI cZ th0 th1 th2 th3 th4 th5 th6 th7 th8 th9 v) t) (A)) (by decide) rfl (Nat.le_of_ble_eq_true rfl) ?_
  intro p e s m below meth c ls A Q H locs eQ hx hb hr hml hts hown hlocks hK hP hD hS hA hE hl
  have hown : s.vm.findClass RX11 = some m.cls := hown
  have hl : lv_has ls 9 [(0, .ref th0), (1, .int p1), (2, .int p2)] := hl
  have hi_X11 : ∀ w ∈ wsX110, w ∈ wsX11_down := fun w h => List.mem_cons_of_mem _ (List.mem_append_right _ h)
  have hJ136 : ∀ (K_61 : Int32 → Int32 → Int32 → sM → Option (Int32 × sM)), (∀ (v1 : Int32) (v2 : Int32) (v3 : Int32) (u_th : sM) (H : Heap) (locs : List Loc) (ls : Array Slot), lv_has ls 9 [(0, .ref th0), (1, .int v1), (2, .int v2), (3, .int v3)] → va_P D vwCl (ceM cI cZ th0 th1 th2 th3 th4 th5 th6 th7 th8 th9 u_th) H → va_D A (ceM cI cZ th0 th1 th2 th3 th4 th5 th6 th7 th8 th9 u_th) → va_S A s.heap H locs → K_61 v1 v2 v3 u_th = some z → W p l e (headSpec wsX11_down rmX11_down).room s m ([.ref th0, .int p1, .int p2] : List Value).toArray below meth c H locs 0 0 Q (F0 m 61 ls [])) → ∀ (K_77 : Int32 → Int32 → Int32 → Int32 → Int32 → sM → Option (Int32 × sM)), (∀ (v1 : Int32) (v2 : Int32) (v3 : Int32) (v4 : Int32) (v5 : Int32) (u_th : sM) (H : Heap) (locs : List Loc) (ls : Array Slot), lv_has ls 9 [(0, .ref th0), (1, .int v1), (2, .int v2), (3, .int v3), (4, .int v4), (5, .int v5)] → va_P D vwCl (ceM cI cZ th0 th1 th2 th3 th4 th5 th6 th7 th8 th9 u_th) H → va_D A (ceM cI cZ th0 th1 th2 th3 th4 th5 th6 th7 th8 th9 u_th) → va_S A s.heap H locs → K_77 v1 v2 v3 v4 v5 u_th = some z → W p l e (headSpec wsX11_down rmX11_down).room s m ([.ref th0, .int p1, .int p2] : List Value).toArray below meth c H locs 0 0 Q (F0 m 77 ls [])) → ∀ (v1 : Int32) (v2 : Int32) (v3 : Int32) (v4 : Int32) (v5 : Int32) (v7 : Int32) (u_th : sM) (H : Heap) (locs : List Loc) (ls : Array Slot), lv_has ls 9 [(0, .ref th0), (1, .int v1), (2, .int v2), (3, .int v3), (4, .int v4), (5, .int v5), (7, .int v7)] → va_P D vwCl (ceM cI cZ th0 th1 th2 th3 th4 th5 th6 th7 th8 th9 u_th) H → va_D A (ceM cI cZ th0 th1 th2 th3 th4 th5 th6 th7 th8 th9 u_th) → va_S A s.heap H locs → f_X11_down_J136 K_61 K_77 v1 v2 v3 v4 v5 v7 u_th = some z → W p l e (headSpec wsX11_down rmX11_down).room s m ([.ref th0, .int p1, .int p2] : List Value).toArray below meth c H locs 0 0 Q (F0 m 136 ls []) := by
    intro K_61 hK_61 K_77 hK_77 v1 v2 v3 v4 v5 v7 u_th H locs ls hl hP hD hS hf
    rw [f_X11_down_J136] at hf
    refine lv_iload hx hb dX11_down_136 (lv_at hl 6 rfl) ?_
    refine lv_if_eq (tgt := 205) hx hb dX11_down_138 (by decide) (fun c15 => ?_) (fun c15 => ?_)
    · have hf := (if_pos c15).symm.trans hf
      refine lv_iinc (v := (v5 + (1 : Int32))) (lv' := [(5, .int (v5 + (1 : Int32))), (0, .ref th0), (1, .int v1), (2, .int v2), (3, .int v3), (4, .int v4), (7, .int v7)]) hx hb dX11_down_205 hl (k := 5) rfl rfl (by decide) rfl (fun ls hl => ?_)
      refine lv_goto (tgt := 77) hx hb dX11_down_208 (by decide) ?_
      exact hK_77 v1 v2 v3 v4 (v5 + (1 : Int32)) u_th _ _ ls (lv_sub hl [1, 2, 3, 4, 5, 0] rfl) hP hD hS hf
    · have hf := (if_neg c15).symm.trans hf
      refine lv_aload_n hx hb dX11_down_141 rfl (lv_at hl 0 rfl) ?_
      refine lv_iload_n hx hb dX11_down_142 rfl (lv_at hl 1 rfl) ?_
      obtain ⟨z16, hz_z16, hf⟩ := o_bind hf
      refine k_calli (va_runV (As := [.int v1]) (rest := []) ⟨hx, hb, hml, hown, hts⟩ (c_X11_carOf l D cI cZ th0 th1 th2 th3 th4 th5 th6 th7 th8 th9 H.size u_th v1 z16 hz_z16) (cwV 1 hts gX11_down_X11_carOf rfl rfl rfl ⟨rfl, hd_X11_carOf⟩ ⟨Nat.le_of_ble_eq_true rfl, Nat.le_of_ble_eq_true rfl⟩) (k_preV hK hP hD hS hA hE [0, 1, 2, 3, 4, 5, 6, 7, 8, 9] (by decide) rfl (ci := 8) rfl rfl) rfl rfl hl.1 rfl (lv_room (Nat.le_of_ble_eq_true rfl)) dX11_down_143 ⟨Nat.zero_le _, Nat.zero_le _⟩) hP hD hS hA [0, 1, 2, 3, 4, 5, 6, 7, 8, 9] [some 0, some 1, some 2, some 3, some 4, some 5, some 6, some 7, some 8, some 9] 10 rfl (by decide) (by decide) rfl rfl (fun H locs hP hD hS => ?_)
      have hP : va_P D vwCl (ceM cI cZ th0 th1 th2 th3 th4 th5 th6 th7 th8 th9 u_th) H := hP
      have hD : va_D A (ceM cI cZ th0 th1 th2 th3 th4 th5 th6 th7 th8 th9 u_th) := hD
      refine lv_aload_n hx hb dX11_down_146 rfl (lv_at hl 0 rfl) ?_
      refine va_get (D := D) (ci := 8) (v := .int (M_foot u_th)) (C := RX11) (T := TX11) (N := 17) hx hb hts hi_X11 hown hK hP 0 rfl rfl 9 (by decide) (hts (.fieldLink RX11 60 "FairWheelModel" "foot" "I") (List.mem_of_getElem? (i := 1) rfl)) (fun _ h9 => h9) rfl dX11_down_147 ?_
      refine lv_icmp_ne (tgt := 205) hx hb dX11_down_150 (by decide) (fun c17 => ?_) (fun c17 => ?_)
      · have hf := (if_neg c17).symm.trans hf
        refine lv_iinc (v := (v5 + (1 : Int32))) (lv' := [(5, .int (v5 + (1 : Int32))), (0, .ref th0), (1, .int v1), (2, .int v2), (3, .int v3), (4, .int v4), (7, .int v7)]) hx hb dX11_down_205 hl (k := 5) rfl rfl (by decide) rfl (fun ls hl => ?_)
        refine lv_goto (tgt := 77) hx hb dX11_down_208 (by decide) ?_
        exact hK_77 v1 v2 v3 v4 (v5 + (1 : Int32)) u_th _ _ ls (lv_sub hl [1, 2, 3, 4, 5, 0] rfl) hP hD hS hf
      · have hf := (if_pos c17).symm.trans hf
        refine lv_iload hx hb dX11_down_153 (lv_at hl 5 rfl) ?_
        refine lv_bipush (v := 18) hx hb dX11_down_155 (by decide) ?_
        refine lv_iload_n hx hb dX11_down_157 rfl (lv_at hl 3 rfl) ?_
        refine lv_iconst (v := 1) hx hb dX11_down_158 (by decide) ?_
        refine lv_isub hx hb dX11_down_159 ?_
        obtain ⟨z18, hz_z18, hf⟩ := o_bind hf
        refine k_calli (va_runS (As := [.int (18 : Int32), .int (v3 - (1 : Int32))]) (rest := [.int v5]) ⟨hx, hb, hml, hown, hts⟩ (c_X11_powerOf l D cI cZ  H.size (18 : Int32) (v3 - (1 : Int32)) z18 hz_z18) (va_cwS 2 hts gX11_down_X11_powerOf rfl rfl rfl hd_X11_powerOf ⟨Nat.le_of_ble_eq_true rfl, Nat.le_of_ble_eq_true rfl⟩) (k_preS hK hP hD hS hA hE [] (by decide) rfl) rfl rfl hl.1 rfl (lv_room (Nat.le_of_ble_eq_true rfl)) dX11_down_160 ⟨Nat.zero_le _, Nat.zero_le _⟩) hP hD hS hA [] [none, none, none, none, none, none, none, none, none, none] 0 rfl (by decide) (by decide) rfl rfl (fun H locs hP hD hS => ?_)
        have hP : va_P D vwCl (ceM cI cZ th0 th1 th2 th3 th4 th5 th6 th7 th8 th9 u_th) H := hP
        have hD : va_D A (ceM cI cZ th0 th1 th2 th3 th4 th5 th6 th7 th8 th9 u_th) := hD
        by_cases c19 : z18.1 = 0
        · have hf := (if_pos c19).symm.trans hf
          cases hf
        have hf := (if_neg c19).symm.trans hf
        refine lv_idiv hx hb dX11_down_163 c19 ?_
        refine lv_istore (lv' := [(8, .int (v5 / z18.1)), (0, .ref th0), (1, .int v1), (2, .int v2), (3, .int v3), (4, .int v4), (5, .int v5), (7, .int v7)]) hx hb dX11_down_164 hl (by decide) rfl (fun ls hl => ?_)
        refine lv_iload_n hx hb dX11_down_166 rfl (lv_at hl 3 rfl) ?_
        refine lv_if_ne (tgt := 174) hx hb dX11_down_167 (by decide) (fun c20 => ?_) (fun c20 => ?_)
        · have hf := (if_neg c20).symm.trans hf
          refine lv_iload_n hx hb dX11_down_174 rfl (lv_at hl 3 rfl) ?_
          refine lv_iconst (v := 1) hx hb dX11_down_175 (by decide) ?_
          refine lv_icmp_ne (tgt := 186) hx hb dX11_down_176 (by decide) (fun c21 => ?_) (fun c21 => ?_)
          · have hf := (if_neg c21).symm.trans hf
            refine lv_iload hx hb dX11_down_186 (lv_at hl 0 rfl) ?_
            refine lv_iconst (v := 2) hx hb dX11_down_188 (by decide) ?_
            refine lv_idiv hx hb dX11_down_189 (by decide) ?_
            refine lv_bipush (v := 8) hx hb dX11_down_190 (by decide) ?_
            refine lv_icmp_ne (tgt := 200) hx hb dX11_down_192 (by decide) (fun c22 => ?_) (fun c22 => ?_)
            · have hf := (if_neg c22).symm.trans hf
              refine lv_iload hx hb dX11_down_200 (lv_at hl 0 rfl) ?_
              refine lv_iconst (v := 2) hx hb dX11_down_202 (by decide) ?_
              refine lv_idiv hx hb dX11_down_203 (by decide) ?_
              exact k_iret (v := ((v5 / z18.1) / (2 : Int32))) (u := u_th) hx hb hr hlocks hK hS eQ hf hP hD dX11_down_204
            · have hf := (if_pos c22).symm.trans hf
              refine lv_bipush (v := -6) hx hb dX11_down_195 (by decide) ?_
              refine lv_goto (tgt := 204) hx hb dX11_down_197 (by decide) ?_
              exact k_iret (v := (-6 : Int32)) (u := u_th) hx hb hr hlocks hK hS eQ hf hP hD dX11_down_204
          · have hf := (if_pos c21).symm.trans hf
            refine lv_iload hx hb dX11_down_179 (lv_at hl 0 rfl) ?_
            refine lv_iconst (v := 2) hx hb dX11_down_181 (by decide) ?_
            refine lv_irem hx hb dX11_down_182 (by decide) ?_
            refine lv_goto (tgt := 204) hx hb dX11_down_183 (by decide) ?_
            exact k_iret (v := ((v5 / z18.1) - (v5 / z18.1) / (2 : Int32) * (2 : Int32))) (u := u_th) hx hb hr hlocks hK hS eQ hf hP hD dX11_down_204
        · have hf := (if_pos c20).symm.trans hf
          refine lv_iload_n hx hb dX11_down_170 rfl (lv_at hl 4 rfl) ?_
          refine lv_goto (tgt := 204) hx hb dX11_down_171 (by decide) ?_
          exact k_iret (v := v3) (u := u_th) hx hb hr hlocks hK hS eQ hf hP hD dX11_down_204
  have hL98 : ∀ (K_61 : Int32 → Int32 → Int32 → sM → Option (Int32 × sM)), (∀ (v1 : Int32) (v2 : Int32) (v3 : Int32) (u_th : sM) (H : Heap) (locs : List Loc) (ls : Array Slot), lv_has ls 9 [(0, .ref th0), (1, .int v1), (2, .int v2), (3, .int v3)] → va_P D vwCl (ceM cI cZ th0 th1 th2 th3 th4 th5 th6 th7 th8 th9 u_th) H → va_D A (ceM cI cZ th0 th1 th2 th3 th4 th5 th6 th7 th8 th9 u_th) → va_S A s.heap H locs → K_61 v1 v2 v3 u_th = some z → W p l e (headSpec wsX11_down rmX11_down).room s m ([.ref th0, .int p1, .int p2] : List Value).toArray below meth c H locs 0 0 Q (F0 m 61 ls [])) → ∀ (K_77 : Int32 → Int32 → Int32 → Int32 → Int32 → sM → Option (Int32 × sM)), (∀ (v1 : Int32) (v2 : Int32) (v3 : Int32) (v4 : Int32) (v5 : Int32) (u_th : sM) (H : Heap) (locs : List Loc) (ls : Array Slot), lv_has ls 9 [(0, .ref th0), (1, .int v1), (2, .int v2), (3, .int v3), (4, .int v4), (5, .int v5)] → va_P D vwCl (ceM cI cZ th0 th1 th2 th3 th4 th5 th6 th7 th8 th9 u_th) H → va_D A (ceM cI cZ th0 th1 th2 th3 th4 th5 th6 th7 th8 th9 u_th) → va_S A s.heap H locs → K_77 v1 v2 v3 v4 v5 u_th = some z → W p l e (headSpec wsX11_down rmX11_down).room s m ([.ref th0, .int p1, .int p2] : List Value).toArray below meth c H locs 0 0 Q (F0 m 77 ls [])) → ∀ (n : Nat), ∀ (v1 : Int32) (v2 : Int32) (v3 : Int32) (v4 : Int32) (v5 : Int32) (v6 : Int32) (v7 : Int32) (v8 : Int32) (u_th : sM) (H : Heap) (locs : List Loc) (ls : Array Slot), lv_has ls 9 [(0, .ref th0), (1, .int v1), (2, .int v2), (3, .int v3), (4, .int v4), (5, .int v5), (6, .int v6), (7, .int v7), (8, .int v8)] → va_P D vwCl (ceM cI cZ th0 th1 th2 th3 th4 th5 th6 th7 th8 th9 u_th) H → va_D A (ceM cI cZ th0 th1 th2 th3 th4 th5 th6 th7 th8 th9 u_th) → va_S A s.heap H locs → f_X11_down_L98 K_61 K_77 n v1 v2 v3 v4 v5 v6 v7 v8 u_th = some z → W p l e (headSpec wsX11_down rmX11_down).room s m ([.ref th0, .int p1, .int p2] : List Value).toArray below meth c H locs 0 0 Q (F0 m 98 ls []) := by
    intro K_61 hK_61 K_77 hK_77 n
    induction n with
    | zero =>
      intro v1 v2 v3 v4 v5 v6 v7 v8 u_th H locs ls hl hP hD hS hf
      exact absurd (show (none : Option (Int32 × sM)) = some z from hf) (fun h => by cases h)
    | succ n ih =>
      intro v1 v2 v3 v4 v5 v6 v7 v8 u_th H locs ls hl hP hD hS hf
      rw [f_X11_down_L98] at hf
      refine lv_iload hx hb dX11_down_98 (lv_at hl 8 rfl) ?_
      refine lv_iload_n hx hb dX11_down_100 rfl (lv_at hl 3 rfl) ?_
      refine lv_icmp_ge (tgt := 136) hx hb dX11_down_101 (by decide) (fun c14 => ?_) (fun c14 => ?_)
      · have hf := (if_pos c14).symm.trans hf
        exact hJ136 K_61 hK_61 K_77 hK_77 v1 v2 v3 v4 v5 v7 u_th _ _ ls (lv_sub hl [0, 1, 2, 3, 4, 5, 7] rfl) hP hD hS hf
      · have hf := (if_neg c14).symm.trans hf
        refine lv_iload hx hb dX11_down_104 (lv_at hl 7 rfl) ?_
        refine lv_if_eq (tgt := 136) hx hb dX11_down_106 (by decide) (fun c23 => ?_) (fun c23 => ?_)
        · have hf := (if_pos c23).symm.trans hf
          exact hJ136 K_61 hK_61 K_77 hK_77 v1 v2 v3 v4 v5 v7 u_th _ _ ls (lv_sub hl [0, 1, 2, 3, 4, 5, 7] rfl) hP hD hS hf
        · have hf := (if_neg c23).symm.trans hf
          refine lv_iload hx hb dX11_down_109 (lv_at hl 6 rfl) ?_
          refine lv_bipush (v := 18) hx hb dX11_down_111 (by decide) ?_
          refine lv_idiv hx hb dX11_down_113 (by decide) ?_
          refine lv_istore (lv' := [(6, .int (v6 / (18 : Int32))), (0, .ref th0), (1, .int v1), (2, .int v2), (3, .int v3), (4, .int v4), (5, .int v5), (7, .int v7), (8, .int v8)]) hx hb dX11_down_114 hl (by decide) rfl (fun ls hl => ?_)
          refine lv_aload_n hx hb dX11_down_116 rfl (lv_at hl 1 rfl) ?_
          refine lv_iload hx hb dX11_down_117 (lv_at hl 6 rfl) ?_
          refine lv_iload hx hb dX11_down_119 (lv_at hl 0 rfl) ?_
          by_cases c24 : (v6 / (18 : Int32)) = 0
          · have hf := (if_pos c24).symm.trans hf
            cases hf
          have hf := (if_neg c24).symm.trans hf
          refine lv_idiv hx hb dX11_down_121 c24 ?_
          refine lv_bipush (v := 18) hx hb dX11_down_122 (by decide) ?_
          refine lv_irem hx hb dX11_down_124 (by decide) ?_
          obtain ⟨z25, hz_z25, hf⟩ := o_bind hf
          refine k_calli (va_runV (As := [.int ((v5 / (v6 / (18 : Int32))) - (v5 / (v6 / (18 : Int32))) / (18 : Int32) * (18 : Int32))]) (rest := []) ⟨hx, hb, hml, hown, hts⟩ (c_X11_move l D cI cZ th0 th1 th2 th3 th4 th5 th6 th7 th8 th9 H.size u_th ((v5 / (v6 / (18 : Int32))) - (v5 / (v6 / (18 : Int32))) / (18 : Int32) * (18 : Int32)) z25 hz_z25) (cwV 1 hts gX11_down_X11_move rfl rfl rfl ⟨rfl, hd_X11_move⟩ ⟨Nat.le_of_ble_eq_true rfl, Nat.le_of_ble_eq_true rfl⟩) (k_preV hK hP hD hS hA hE [0, 1, 2, 3, 4, 5, 6, 7, 8, 9] (by decide) rfl (ci := 8) rfl rfl) rfl rfl hl.1 rfl (lv_room (Nat.le_of_ble_eq_true rfl)) dX11_down_125 ⟨Nat.zero_le _, Nat.zero_le _⟩) hP hD hS hA [0, 1, 2, 3, 4, 5, 6, 7, 8, 9] [some 0, some 1, some 2, some 3, some 4, some 5, some 6, some 7, some 8, some 9] 10 rfl (by decide) (by decide) rfl rfl (fun H locs hP hD hS => ?_)
          have hP : va_P D vwCl (ceM cI cZ th0 th1 th2 th3 th4 th5 th6 th7 th8 th9 z25.2) H := hP
          have hD : va_D A (ceM cI cZ th0 th1 th2 th3 th4 th5 th6 th7 th8 th9 z25.2) := hD
          refine lv_istore (lv' := [(7, .int z25.1), (6, .int (v6 / (18 : Int32))), (0, .ref th0), (1, .int v1), (2, .int v2), (3, .int v3), (4, .int v4), (5, .int v5), (8, .int v8)]) hx hb dX11_down_128 hl (by decide) rfl (fun ls hl => ?_)
          refine lv_iinc (v := (v8 + (1 : Int32))) (lv' := [(8, .int (v8 + (1 : Int32))), (7, .int z25.1), (6, .int (v6 / (18 : Int32))), (0, .ref th0), (1, .int v1), (2, .int v2), (3, .int v3), (4, .int v4), (5, .int v5)]) hx hb dX11_down_130 hl (k := 8) rfl rfl (by decide) rfl (fun ls hl => ?_)
          refine lv_goto (tgt := 98) hx hb dX11_down_133 (by decide) ?_
          exact ih v1 v2 v3 v4 v5 (v6 / (18 : Int32)) z25.1 (v8 + (1 : Int32)) z25.2 _ _ ls (lv_sub hl [3, 4, 5, 6, 7, 8, 2, 1, 0] rfl) hP hD hS hf
  have hL77 : ∀ (K_61 : Int32 → Int32 → Int32 → sM → Option (Int32 × sM)), (∀ (v1 : Int32) (v2 : Int32) (v3 : Int32) (u_th : sM) (H : Heap) (locs : List Loc) (ls : Array Slot), lv_has ls 9 [(0, .ref th0), (1, .int v1), (2, .int v2), (3, .int v3)] → va_P D vwCl (ceM cI cZ th0 th1 th2 th3 th4 th5 th6 th7 th8 th9 u_th) H → va_D A (ceM cI cZ th0 th1 th2 th3 th4 th5 th6 th7 th8 th9 u_th) → va_S A s.heap H locs → K_61 v1 v2 v3 u_th = some z → W p l e (headSpec wsX11_down rmX11_down).room s m ([.ref th0, .int p1, .int p2] : List Value).toArray below meth c H locs 0 0 Q (F0 m 61 ls [])) → ∀ (n : Nat), ∀ (v1 : Int32) (v2 : Int32) (v3 : Int32) (v4 : Int32) (v5 : Int32) (u_th : sM) (H : Heap) (locs : List Loc) (ls : Array Slot), lv_has ls 9 [(0, .ref th0), (1, .int v1), (2, .int v2), (3, .int v3), (4, .int v4), (5, .int v5)] → va_P D vwCl (ceM cI cZ th0 th1 th2 th3 th4 th5 th6 th7 th8 th9 u_th) H → va_D A (ceM cI cZ th0 th1 th2 th3 th4 th5 th6 th7 th8 th9 u_th) → va_S A s.heap H locs → f_X11_down_L77 K_61 n v1 v2 v3 v4 v5 u_th = some z → W p l e (headSpec wsX11_down rmX11_down).room s m ([.ref th0, .int p1, .int p2] : List Value).toArray below meth c H locs 0 0 Q (F0 m 77 ls []) := by
    intro K_61 hK_61 n
    induction n with
    | zero =>
      intro v1 v2 v3 v4 v5 u_th H locs ls hl hP hD hS hf
      exact absurd (show (none : Option (Int32 × sM)) = some z from hf) (fun h => by cases h)
    | succ n ih =>
      intro v1 v2 v3 v4 v5 u_th H locs ls hl hP hD hS hf
      rw [f_X11_down_L77] at hf
      refine lv_iload hx hb dX11_down_77 (lv_at hl 5 rfl) ?_
      refine lv_iload hx hb dX11_down_79 (lv_at hl 4 rfl) ?_
      refine lv_icmp_ge (tgt := 211) hx hb dX11_down_81 (by decide) (fun c12 => ?_) (fun c12 => ?_)
      · have hf := (if_pos c12).symm.trans hf
        refine lv_iinc (v := (v3 + (1 : Int32))) (lv' := [(3, .int (v3 + (1 : Int32))), (0, .ref th0), (1, .int v1), (2, .int v2), (4, .int v4), (5, .int v5)]) hx hb dX11_down_211 hl (k := 3) rfl rfl (by decide) rfl (fun ls hl => ?_)
        refine lv_goto (tgt := 61) hx hb dX11_down_214 (by decide) ?_
        exact hK_61 v1 v2 (v3 + (1 : Int32)) u_th _ _ ls (lv_sub hl [1, 2, 3, 0] rfl) hP hD hS hf
      · have hf := (if_neg c12).symm.trans hf
        refine lv_aload_n hx hb dX11_down_84 rfl (lv_at hl 0 rfl) ?_
        obtain ⟨z13, hz_z13, hf⟩ := o_bind hf
        refine k_callv (va_runV (As := []) (rest := []) ⟨hx, hb, hml, hown, hts⟩ (c_X11_asNow l D cI cZ th0 th1 th2 th3 th4 th5 th6 th7 th8 th9 H.size u_th z13 hz_z13) (cwV 0 hts gX11_down_X11_asNow rfl rfl rfl ⟨rfl, hd_X11_asNow⟩ ⟨Nat.le_of_ble_eq_true rfl, Nat.le_of_ble_eq_true rfl⟩) (k_preV hK hP hD hS hA hE [0, 1, 2, 3, 4, 5, 6, 7, 8, 9] (by decide) rfl (ci := 8) rfl rfl) rfl rfl hl.1 rfl (lv_room (Nat.le_of_ble_eq_true rfl)) dX11_down_85 ⟨Nat.zero_le _, Nat.zero_le _⟩) hP hD hS hA [0, 1, 2, 3, 4, 5, 6, 7, 8, 9] [some 0, some 1, some 2, some 3, some 4, some 5, some 6, some 7, some 8, some 9] 10 rfl (by decide) (by decide) rfl rfl (fun H locs hP hD hS => ?_)
        have hP : va_P D vwCl (ceM cI cZ th0 th1 th2 th3 th4 th5 th6 th7 th8 th9 z13) H := hP
        have hD : va_D A (ceM cI cZ th0 th1 th2 th3 th4 th5 th6 th7 th8 th9 z13) := hD
        refine lv_iload hx hb dX11_down_88 (lv_at hl 4 rfl) ?_
        refine lv_istore (lv' := [(6, .int v4), (0, .ref th0), (1, .int v1), (2, .int v2), (3, .int v3), (4, .int v4), (5, .int v5)]) hx hb dX11_down_90 hl (by decide) rfl (fun ls hl => ?_)
        refine lv_iconst (v := 1) hx hb dX11_down_92 (by decide) ?_
        refine lv_istore (lv' := [(7, .int (1 : Int32)), (6, .int v4), (0, .ref th0), (1, .int v1), (2, .int v2), (3, .int v3), (4, .int v4), (5, .int v5)]) hx hb dX11_down_93 hl (by decide) rfl (fun ls hl => ?_)
        refine lv_iconst (v := 0) hx hb dX11_down_95 (by decide) ?_
        refine lv_istore (lv' := [(8, .int (0 : Int32)), (7, .int (1 : Int32)), (6, .int v4), (0, .ref th0), (1, .int v1), (2, .int v2), (3, .int v3), (4, .int v4), (5, .int v5)]) hx hb dX11_down_96 hl (by decide) rfl (fun ls hl => ?_)
        exact hL98 K_61 hK_61 (f_X11_down_L77 K_61 n) ih oF v1 v2 v3 v4 v5 v4 (1 : Int32) (0 : Int32) z13 _ _ ls (lv_sub hl [3, 4, 5, 6, 7, 8, 2, 1, 0] rfl) hP hD hS hf
  have hL61 : ∀ (n : Nat), ∀ (v1 : Int32) (v2 : Int32) (v3 : Int32) (u_th : sM) (H : Heap) (locs : List Loc) (ls : Array Slot), lv_has ls 9 [(0, .ref th0), (1, .int v1), (2, .int v2), (3, .int v3)] → va_P D vwCl (ceM cI cZ th0 th1 th2 th3 th4 th5 th6 th7 th8 th9 u_th) H → va_D A (ceM cI cZ th0 th1 th2 th3 th4 th5 th6 th7 th8 th9 u_th) → va_S A s.heap H locs → f_X11_down_L61 n v1 v2 v3 u_th = some z → W p l e (headSpec wsX11_down rmX11_down).room s m ([.ref th0, .int p1, .int p2] : List Value).toArray below meth c H locs 0 0 Q (F0 m 61 ls []) := by
    intro n
    induction n with
    | zero =>
      intro v1 v2 v3 u_th H locs ls hl hP hD hS hf
      exact absurd (show (none : Option (Int32 × sM)) = some z from hf) (fun h => by cases h)
    | succ n ih =>
      intro v1 v2 v3 u_th H locs ls hl hP hD hS hf
      rw [f_X11_down_L61] at hf
      refine lv_iload_n hx hb dX11_down_61 rfl (lv_at hl 3 rfl) ?_
      refine lv_iconst (v := 4) hx hb dX11_down_62 (by decide) ?_
      refine lv_icmp_ge (tgt := 217) hx hb dX11_down_63 (by decide) (fun c10 => ?_) (fun c10 => ?_)
      · have hf := (if_pos c10).symm.trans hf
        refine lv_bipush (v := -6) hx hb dX11_down_217 (by decide) ?_
        exact k_iret (v := (-6 : Int32)) (u := u_th) hx hb hr hlocks hK hS eQ hf hP hD dX11_down_219
      · have hf := (if_neg c10).symm.trans hf
        refine lv_bipush (v := 18) hx hb dX11_down_66 (by decide) ?_
        refine lv_iload_n hx hb dX11_down_68 rfl (lv_at hl 3 rfl) ?_
        obtain ⟨z11, hz_z11, hf⟩ := o_bind hf
        refine k_calli (va_runS (As := [.int (18 : Int32), .int v3]) (rest := []) ⟨hx, hb, hml, hown, hts⟩ (c_X11_powerOf l D cI cZ  H.size (18 : Int32) v3 z11 hz_z11) (va_cwS 2 hts gX11_down_X11_powerOf rfl rfl rfl hd_X11_powerOf ⟨Nat.le_of_ble_eq_true rfl, Nat.le_of_ble_eq_true rfl⟩) (k_preS hK hP hD hS hA hE [] (by decide) rfl) rfl rfl hl.1 rfl (lv_room (Nat.le_of_ble_eq_true rfl)) dX11_down_69 ⟨Nat.zero_le _, Nat.zero_le _⟩) hP hD hS hA [] [none, none, none, none, none, none, none, none, none, none] 0 rfl (by decide) (by decide) rfl rfl (fun H locs hP hD hS => ?_)
        have hP : va_P D vwCl (ceM cI cZ th0 th1 th2 th3 th4 th5 th6 th7 th8 th9 u_th) H := hP
        have hD : va_D A (ceM cI cZ th0 th1 th2 th3 th4 th5 th6 th7 th8 th9 u_th) := hD
        refine lv_istore (lv' := [(4, .int z11.1), (0, .ref th0), (1, .int v1), (2, .int v2), (3, .int v3)]) hx hb dX11_down_72 hl (by decide) rfl (fun ls hl => ?_)
        refine lv_iconst (v := 0) hx hb dX11_down_74 (by decide) ?_
        refine lv_istore (lv' := [(5, .int (0 : Int32)), (4, .int z11.1), (0, .ref th0), (1, .int v1), (2, .int v2), (3, .int v3)]) hx hb dX11_down_75 hl (by decide) rfl (fun ls hl => ?_)
        exact hL77 (f_X11_down_L61 n) ih oF v1 v2 v3 z11.1 (0 : Int32) u_th _ _ ls (lv_sub hl [2, 3, 4, 5, 1, 0] rfl) hP hD hS hf
  rw [f_X11_down] at hf
  refine lv_iload_n hx hb dX11_down_0 rfl (lv_at hl 1 rfl) ?_
  obtain ⟨z1, hz_z1, hf⟩ := o_bind hf
  refine k_calli (va_runS (As := [.int p1]) (rest := []) ⟨hx, hb, hml, hown, hts⟩ (c_X11_is8 l D cI cZ  H.size p1 z1 hz_z1) (va_cwS 1 hts gX11_down_X11_is8 rfl rfl rfl hd_X11_is8 ⟨Nat.le_of_ble_eq_true rfl, Nat.le_of_ble_eq_true rfl⟩) (k_preS hK hP hD hS hA hE [] (by decide) rfl) rfl rfl hl.1 rfl (lv_room (Nat.le_of_ble_eq_true rfl)) dX11_down_1 ⟨Nat.zero_le _, Nat.zero_le _⟩) hP hD hS hA [] [none, none, none, none, none, none, none, none, none, none] 0 rfl (by decide) (by decide) rfl rfl (fun H locs hP hD hS => ?_)
  have hP : va_P D vwCl (ceM cI cZ th0 th1 th2 th3 th4 th5 th6 th7 th8 th9 u_th) H := hP
  have hD : va_D A (ceM cI cZ th0 th1 th2 th3 th4 th5 th6 th7 th8 th9 u_th) := hD
  refine lv_if_ne (tgt := 9) hx hb dX11_down_4 (by decide) (fun c2 => ?_) (fun c2 => ?_)
  · have hf := (if_neg c2).symm.trans hf
    refine lv_iload_n hx hb dX11_down_9 rfl (lv_at hl 2 rfl) ?_
    refine lv_iconst (v := 0) hx hb dX11_down_10 (by decide) ?_
    refine lv_iconst (v := 2) hx hb dX11_down_11 (by decide) ?_
    obtain ⟨z3, hz_z3, hf⟩ := o_bind hf
    refine k_calli (va_runS (As := [.int p2, .int (0 : Int32), .int (2 : Int32)]) (rest := []) ⟨hx, hb, hml, hown, hts⟩ (c_X11_in l D cI cZ  H.size p2 (0 : Int32) (2 : Int32) z3 hz_z3) (va_cwS 3 hts gX11_down_X11_in rfl rfl rfl hd_X11_in ⟨Nat.le_of_ble_eq_true rfl, Nat.le_of_ble_eq_true rfl⟩) (k_preS hK hP hD hS hA hE [] (by decide) rfl) rfl rfl hl.1 rfl (lv_room (Nat.le_of_ble_eq_true rfl)) dX11_down_12 ⟨Nat.zero_le _, Nat.zero_le _⟩) hP hD hS hA [] [none, none, none, none, none, none, none, none, none, none] 0 rfl (by decide) (by decide) rfl rfl (fun H locs hP hD hS => ?_)
    have hP : va_P D vwCl (ceM cI cZ th0 th1 th2 th3 th4 th5 th6 th7 th8 th9 u_th) H := hP
    have hD : va_D A (ceM cI cZ th0 th1 th2 th3 th4 th5 th6 th7 th8 th9 u_th) := hD
    refine lv_if_ne (tgt := 21) hx hb dX11_down_15 (by decide) (fun c4 => ?_) (fun c4 => ?_)
    · have hf := (if_neg c4).symm.trans hf
      refine lv_aload_n hx hb dX11_down_21 rfl (lv_at hl 0 rfl) ?_
      obtain ⟨z5, hz_z5, hf⟩ := o_bind hf
      refine k_callv (va_runV (As := []) (rest := []) ⟨hx, hb, hml, hown, hts⟩ (c_X11_asNow l D cI cZ th0 th1 th2 th3 th4 th5 th6 th7 th8 th9 H.size u_th z5 hz_z5) (cwV 0 hts gX11_down_X11_asNow rfl rfl rfl ⟨rfl, hd_X11_asNow⟩ ⟨Nat.le_of_ble_eq_true rfl, Nat.le_of_ble_eq_true rfl⟩) (k_preV hK hP hD hS hA hE [0, 1, 2, 3, 4, 5, 6, 7, 8, 9] (by decide) rfl (ci := 8) rfl rfl) rfl rfl hl.1 rfl (lv_room (Nat.le_of_ble_eq_true rfl)) dX11_down_22 ⟨Nat.zero_le _, Nat.zero_le _⟩) hP hD hS hA [0, 1, 2, 3, 4, 5, 6, 7, 8, 9] [some 0, some 1, some 2, some 3, some 4, some 5, some 6, some 7, some 8, some 9] 10 rfl (by decide) (by decide) rfl rfl (fun H locs hP hD hS => ?_)
      have hP : va_P D vwCl (ceM cI cZ th0 th1 th2 th3 th4 th5 th6 th7 th8 th9 z5) H := hP
      have hD : va_D A (ceM cI cZ th0 th1 th2 th3 th4 th5 th6 th7 th8 th9 z5) := hD
      refine lv_aload_n hx hb dX11_down_25 rfl (lv_at hl 0 rfl) ?_
      refine lv_iload_n hx hb dX11_down_26 rfl (lv_at hl 1 rfl) ?_
      obtain ⟨z6, hz_z6, hf⟩ := o_bind hf
      refine k_calli (va_runV (As := [.int p1]) (rest := []) ⟨hx, hb, hml, hown, hts⟩ (c_X11_carOf l D cI cZ th0 th1 th2 th3 th4 th5 th6 th7 th8 th9 H.size z5 p1 z6 hz_z6) (cwV 1 hts gX11_down_X11_carOf rfl rfl rfl ⟨rfl, hd_X11_carOf⟩ ⟨Nat.le_of_ble_eq_true rfl, Nat.le_of_ble_eq_true rfl⟩) (k_preV hK hP hD hS hA hE [0, 1, 2, 3, 4, 5, 6, 7, 8, 9] (by decide) rfl (ci := 8) rfl rfl) rfl rfl hl.1 rfl (lv_room (Nat.le_of_ble_eq_true rfl)) dX11_down_27 ⟨Nat.zero_le _, Nat.zero_le _⟩) hP hD hS hA [0, 1, 2, 3, 4, 5, 6, 7, 8, 9] [some 0, some 1, some 2, some 3, some 4, some 5, some 6, some 7, some 8, some 9] 10 rfl (by decide) (by decide) rfl rfl (fun H locs hP hD hS => ?_)
      have hP : va_P D vwCl (ceM cI cZ th0 th1 th2 th3 th4 th5 th6 th7 th8 th9 z5) H := hP
      have hD : va_D A (ceM cI cZ th0 th1 th2 th3 th4 th5 th6 th7 th8 th9 z5) := hD
      refine lv_if_ge (tgt := 36) hx hb dX11_down_30 (by decide) (fun c7 => ?_) (fun c7 => ?_)
      · have hf := (if_pos c7).symm.trans hf
        refine lv_aload_n hx hb dX11_down_36 rfl (lv_at hl 0 rfl) ?_
        refine lv_iload_n hx hb dX11_down_37 rfl (lv_at hl 1 rfl) ?_
        obtain ⟨z8, hz_z8, hf⟩ := o_bind hf
        refine k_calli (va_runV (As := [.int p1]) (rest := []) ⟨hx, hb, hml, hown, hts⟩ (c_X11_carOf l D cI cZ th0 th1 th2 th3 th4 th5 th6 th7 th8 th9 H.size z5 p1 z8 hz_z8) (cwV 1 hts gX11_down_X11_carOf rfl rfl rfl ⟨rfl, hd_X11_carOf⟩ ⟨Nat.le_of_ble_eq_true rfl, Nat.le_of_ble_eq_true rfl⟩) (k_preV hK hP hD hS hA hE [0, 1, 2, 3, 4, 5, 6, 7, 8, 9] (by decide) rfl (ci := 8) rfl rfl) rfl rfl hl.1 rfl (lv_room (Nat.le_of_ble_eq_true rfl)) dX11_down_38 ⟨Nat.zero_le _, Nat.zero_le _⟩) hP hD hS hA [0, 1, 2, 3, 4, 5, 6, 7, 8, 9] [some 0, some 1, some 2, some 3, some 4, some 5, some 6, some 7, some 8, some 9] 10 rfl (by decide) (by decide) rfl rfl (fun H locs hP hD hS => ?_)
        have hP : va_P D vwCl (ceM cI cZ th0 th1 th2 th3 th4 th5 th6 th7 th8 th9 z5) H := hP
        have hD : va_D A (ceM cI cZ th0 th1 th2 th3 th4 th5 th6 th7 th8 th9 z5) := hD
        refine lv_aload_n hx hb dX11_down_41 rfl (lv_at hl 0 rfl) ?_
        refine va_get (D := D) (ci := 8) (v := .int (M_foot z5)) (C := RX11) (T := TX11) (N := 17) hx hb hts hi_X11 hown hK hP 0 rfl rfl 9 (by decide) (hts (.fieldLink RX11 60 "FairWheelModel" "foot" "I") (List.mem_of_getElem? (i := 1) rfl)) (fun _ h9 => h9) rfl dX11_down_42 ?_
        refine lv_icmp_ne (tgt := 59) hx hb dX11_down_45 (by decide) (fun c9 => ?_) (fun c9 => ?_)
        · have hf := (if_neg c9).symm.trans hf
          refine lv_iconst (v := 1) hx hb dX11_down_59 (by decide) ?_
          refine lv_istore_n (lv' := [(3, .int (1 : Int32)), (0, .ref th0), (1, .int p1), (2, .int p2)]) hx hb dX11_down_60 rfl hl (by decide) rfl (fun ls hl => ?_)
          exact hL61 oF p1 p2 (1 : Int32) z5 _ _ ls (lv_sub hl [1, 2, 3, 0] rfl) hP hD hS hf
        · have hf := (if_pos c9).symm.trans hf
          refine lv_iload_n hx hb dX11_down_48 rfl (lv_at hl 2 rfl) ?_
          refine lv_if_ne (tgt := 56) hx hb dX11_down_49 (by decide) (fun c26 => ?_) (fun c26 => ?_)
          · have hf := (if_neg c26).symm.trans hf
            refine lv_bipush (v := -6) hx hb dX11_down_56 (by decide) ?_
            exact k_iret (v := (-6 : Int32)) (u := z5) hx hb hr hlocks hK hS eQ hf hP hD dX11_down_58
          · have hf := (if_pos c26).symm.trans hf
            refine lv_iconst (v := 0) hx hb dX11_down_52 (by decide) ?_
            refine lv_goto (tgt := 58) hx hb dX11_down_53 (by decide) ?_
            exact k_iret (v := (0 : Int32)) (u := z5) hx hb hr hlocks hK hS eQ hf hP hD dX11_down_58
      · have hf := (if_neg c7).symm.trans hf
        refine lv_bipush (v := -3) hx hb dX11_down_33 (by decide) ?_
        exact k_iret (v := (-3 : Int32)) (u := z5) hx hb hr hlocks hK hS eQ hf hP hD dX11_down_35
    · have hf := (if_pos c4).symm.trans hf
      refine lv_bipush (v := -2) hx hb dX11_down_18 (by decide) ?_
      exact k_iret (v := (-2 : Int32)) (u := u_th) hx hb hr hlocks hK hS eQ hf hP hD dX11_down_20
  · have hf := (if_pos c2).symm.trans hf
    refine lv_iconst (v := -1) hx hb dX11_down_7 (by decide) ?_
    exact k_iret (v := (-1 : Int32)) (u := u_th) hx hb hr hlocks hK hS eQ hf hP hD dX11_down_8
theorem hd_X11_pebbles : yX11_pebbles.cls ≠ "java/lang/invoke/MethodHandle" ∧ yX11_pebbles.cls ≠ "java/lang/invoke/VarHandle" ∧ (parseMethodDescriptor yX11_pebbles.desc).map (fun d => d.parameters.length) = some 1 := by decide +kernel
set_option maxHeartbeats 4000000 in
set_option maxRecDepth 100000 in
theorem c_X11_pebbles (l : Launch) (D : va_G) (cI cZ : ClassId) (th0 : Nat) (th1 : Nat) (th2 : Nat) (th3 : Nat) (th4 : Nat) (th5 : Nat) (th6 : Nat) (th7 : Nat) (th8 : Nat) (th9 : Nat) (sz : Nat) (u_th : sM) (p1 : Int32) (z : Int32 × sM) (hf : f_X11_pebbles u_th p1 = some z) : Met l yX11_pebbles wsX11_pebbles rmX11_pebbles (va_Pc [.ref th0, .int p1] (wPr D cI cZ (ceM cI cZ th0 th1 th2 th3 th4 th5 th6 th7 th8 th9 u_th) sz)) (va_Qi (fun (r : Int32) (v : sM) => (r, v) = z) (fun (v : sM) t => wPo D cI cZ (va_A (ceM cI cZ th0 th1 th2 th3 th4 th5 th6 th7 th8 th9 u_th) sz) (ceM cI cZ th0 th1 th2 th3 th4 th5 th6 th7 th8 th9 v) t) (va_A (ceM cI cZ th0 th1 th2 th3 th4 th5 th6 th7 th8 th9 u_th) sz)) 0 0 (va_A (ceM cI cZ th0 th1 th2 th3 th4 th5 th6 th7 th8 th9 u_th) sz) := by
  refine k_enter (D := D) (cI := cI) (cZ := cZ) (wl := ceM cI cZ th0 th1 th2 th3 th4 th5 th6 th7 th8 th9 u_th) (sz := sz) (av := [.ref th0, .int p1]) (cc := cX11_pebbles) (maxL := 3) (ret := (some .int)) (Qc := fun A => va_Qi (fun (r : Int32) (v : sM) => (r, v) = z) (fun (v : sM) t => wPo D cI cZ (A) (ceM cI cZ th0 th1 th2 th3 th4 th5 th6 th7 th8 th9 v) t) (A)) (by decide) rfl (Nat.le_of_ble_eq_true rfl) ?_
  intro p e s m below meth c ls A Q H locs eQ hx hb hr hml hts hown hlocks hK hP hD hS hA hE hl
  have hown : s.vm.findClass RX11 = some m.cls := hown
  have hl : lv_has ls 3 [(0, .ref th0), (1, .int p1)] := hl
  have hi_X11 : ∀ w ∈ wsX110, w ∈ wsX11_pebbles := fun w h => List.mem_cons_of_mem _ (List.mem_append_right _ h)
  have hL26 : ∀ (n : Nat), ∀ (v1 : Int32) (v2 : Int32) (u_th : sM) (H : Heap) (locs : List Loc) (ls : Array Slot), lv_has ls 3 [(0, .ref th0), (1, .int v1), (2, .int v2)] → va_P D vwCl (ceM cI cZ th0 th1 th2 th3 th4 th5 th6 th7 th8 th9 u_th) H → va_D A (ceM cI cZ th0 th1 th2 th3 th4 th5 th6 th7 th8 th9 u_th) → va_S A s.heap H locs → f_X11_pebbles_L26 n v1 v2 u_th = some z → W p l e (headSpec wsX11_pebbles rmX11_pebbles).room s m ([.ref th0, .int p1] : List Value).toArray below meth c H locs 0 0 Q (F0 m 26 ls []) := by
    intro n
    induction n with
    | zero =>
      intro v1 v2 u_th H locs ls hl hP hD hS hf
      exact absurd (show (none : Option (Int32 × sM)) = some z from hf) (fun h => by cases h)
    | succ n ih =>
      intro v1 v2 u_th H locs ls hl hP hD hS hf
      rw [f_X11_pebbles_L26] at hf
      refine lv_iload_n hx hb dX11_pebbles_26 rfl (lv_at hl 2 rfl) ?_
      refine lv_bipush (v := 100) hx hb dX11_pebbles_27 (by decide) ?_
      refine lv_icmp_ge (tgt := 70) hx hb dX11_pebbles_29 (by decide) (fun c6 => ?_) (fun c6 => ?_)
      · have hf := (if_pos c6).symm.trans hf
        refine lv_bipush (v := -6) hx hb dX11_pebbles_70 (by decide) ?_
        exact k_iret (v := (-6 : Int32)) (u := u_th) hx hb hr hlocks hK hS eQ hf hP hD dX11_pebbles_72
      · have hf := (if_neg c6).symm.trans hf
        refine lv_aload_n hx hb dX11_pebbles_32 rfl (lv_at hl 0 rfl) ?_
        obtain ⟨z7, hz_z7, hf⟩ := o_bind hf
        refine k_callv (va_runV (As := []) (rest := []) ⟨hx, hb, hml, hown, hts⟩ (c_X11_asNow l D cI cZ th0 th1 th2 th3 th4 th5 th6 th7 th8 th9 H.size u_th z7 hz_z7) (cwV 0 hts gX11_pebbles_X11_asNow rfl rfl rfl ⟨rfl, hd_X11_asNow⟩ ⟨Nat.le_of_ble_eq_true rfl, Nat.le_of_ble_eq_true rfl⟩) (k_preV hK hP hD hS hA hE [0, 1, 2, 3, 4, 5, 6, 7, 8, 9] (by decide) rfl (ci := 8) rfl rfl) rfl rfl hl.1 rfl (lv_room (Nat.le_of_ble_eq_true rfl)) dX11_pebbles_33 ⟨Nat.zero_le _, Nat.zero_le _⟩) hP hD hS hA [0, 1, 2, 3, 4, 5, 6, 7, 8, 9] [some 0, some 1, some 2, some 3, some 4, some 5, some 6, some 7, some 8, some 9] 10 rfl (by decide) (by decide) rfl rfl (fun H locs hP hD hS => ?_)
        have hP : va_P D vwCl (ceM cI cZ th0 th1 th2 th3 th4 th5 th6 th7 th8 th9 z7) H := hP
        have hD : va_D A (ceM cI cZ th0 th1 th2 th3 th4 th5 th6 th7 th8 th9 z7) := hD
        refine lv_aload_n hx hb dX11_pebbles_36 rfl (lv_at hl 0 rfl) ?_
        refine va_get (D := D) (ci := 8) (v := .ref th7) (C := RX11) (T := TX11) (N := 17) hx hb hts hi_X11 hown hK hP 0 rfl rfl 13 (by decide) (hts (.fieldLink RX11 32 "FairWheelModel" "heap" "[I") (List.mem_of_getElem? (i := 1) rfl)) (fun _ h9 => h9) rfl dX11_pebbles_37 ?_
        refine lv_aload_n hx hb dX11_pebbles_40 rfl (lv_at hl 0 rfl) ?_
        refine va_get (D := D) (ci := 8) (v := .int (M_foot z7)) (C := RX11) (T := TX11) (N := 17) hx hb hts hi_X11 hown hK hP 0 rfl rfl 9 (by decide) (hts (.fieldLink RX11 60 "FairWheelModel" "foot" "I") (List.mem_of_getElem? (i := 2) rfl)) (fun _ h9 => h9) rfl dX11_pebbles_41 ?_
        refine lv_iload_n hx hb dX11_pebbles_44 rfl (lv_at hl 2 rfl) ?_
        by_cases c8 : (M_foot z7) < 0 ∨ 8 ≤ (M_foot z7).toNatClampNeg
        · have hf := (if_pos c8).symm.trans hf
          cases hf
        have hf := (if_neg c8).symm.trans hf
        refine va_iast hx hb hK hP hD hS 7 0 rfl rfl (show vp_in (M_foot z7) 8 from c8) dX11_pebbles_45 (fun H locs hP hD hS => ?_)
        have hP : va_P D vwCl (ceM cI cZ th0 th1 th2 th3 th4 th5 th6 th7 th8 th9 ((M_weight z7), (M_sits z7), (M_stones z7), (M_at z7), (M_drag z7), (M_sights z7), (M_sight z7), (M_signs z7), (M_pad z7), (M_foot z7), (M_turned z7), (M_bothWays z7), (M_now z7), (upd (M_heap z7) (M_foot z7).toNatClampNeg v2), (M_reason z7), (M_image z7), (M_isKept z7))) H := hP
        have hD : va_D A (ceM cI cZ th0 th1 th2 th3 th4 th5 th6 th7 th8 th9 ((M_weight z7), (M_sits z7), (M_stones z7), (M_at z7), (M_drag z7), (M_sights z7), (M_sight z7), (M_signs z7), (M_pad z7), (M_foot z7), (M_turned z7), (M_bothWays z7), (M_now z7), (upd (M_heap z7) (M_foot z7).toNatClampNeg v2), (M_reason z7), (M_image z7), (M_isKept z7))) := hD
        refine lv_aload_n hx hb dX11_pebbles_46 rfl (lv_at hl 0 rfl) ?_
        obtain ⟨z9, hz_z9, hf⟩ := o_bind hf
        refine k_callv (va_runV (As := []) (rest := []) ⟨hx, hb, hml, hown, hts⟩ (c_X11_letGo l D cI cZ th0 th1 th2 th3 th4 th5 th6 th7 th8 th9 H.size ((M_weight z7), (M_sits z7), (M_stones z7), (M_at z7), (M_drag z7), (M_sights z7), (M_sight z7), (M_signs z7), (M_pad z7), (M_foot z7), (M_turned z7), (M_bothWays z7), (M_now z7), (upd (M_heap z7) (M_foot z7).toNatClampNeg v2), (M_reason z7), (M_image z7), (M_isKept z7)) z9 hz_z9) (cwV 0 hts gX11_pebbles_X11_letGo rfl rfl rfl ⟨rfl, hd_X11_letGo⟩ ⟨Nat.le_of_ble_eq_true rfl, Nat.le_of_ble_eq_true rfl⟩) (k_preV hK hP hD hS hA hE [0, 1, 2, 3, 4, 5, 6, 7, 8, 9] (by decide) rfl (ci := 8) rfl rfl) rfl rfl hl.1 rfl (lv_room (Nat.le_of_ble_eq_true rfl)) dX11_pebbles_47 ⟨Nat.zero_le _, Nat.zero_le _⟩) hP hD hS hA [0, 1, 2, 3, 4, 5, 6, 7, 8, 9] [some 0, some 1, some 2, some 3, some 4, some 5, some 6, some 7, some 8, some 9] 10 rfl (by decide) (by decide) rfl rfl (fun H locs hP hD hS => ?_)
        have hP : va_P D vwCl (ceM cI cZ th0 th1 th2 th3 th4 th5 th6 th7 th8 th9 z9) H := hP
        have hD : va_D A (ceM cI cZ th0 th1 th2 th3 th4 th5 th6 th7 th8 th9 z9) := hD
        refine lv_aload_n hx hb dX11_pebbles_50 rfl (lv_at hl 0 rfl) ?_
        refine lv_iload_n hx hb dX11_pebbles_51 rfl (lv_at hl 1 rfl) ?_
        obtain ⟨z10, hz_z10, hf⟩ := o_bind hf
        refine k_calli (va_runV (As := [.int v1]) (rest := []) ⟨hx, hb, hml, hown, hts⟩ (c_X11_carOf l D cI cZ th0 th1 th2 th3 th4 th5 th6 th7 th8 th9 H.size z9 v1 z10 hz_z10) (cwV 1 hts gX11_pebbles_X11_carOf rfl rfl rfl ⟨rfl, hd_X11_carOf⟩ ⟨Nat.le_of_ble_eq_true rfl, Nat.le_of_ble_eq_true rfl⟩) (k_preV hK hP hD hS hA hE [0, 1, 2, 3, 4, 5, 6, 7, 8, 9] (by decide) rfl (ci := 8) rfl rfl) rfl rfl hl.1 rfl (lv_room (Nat.le_of_ble_eq_true rfl)) dX11_pebbles_52 ⟨Nat.zero_le _, Nat.zero_le _⟩) hP hD hS hA [0, 1, 2, 3, 4, 5, 6, 7, 8, 9] [some 0, some 1, some 2, some 3, some 4, some 5, some 6, some 7, some 8, some 9] 10 rfl (by decide) (by decide) rfl rfl (fun H locs hP hD hS => ?_)
        have hP : va_P D vwCl (ceM cI cZ th0 th1 th2 th3 th4 th5 th6 th7 th8 th9 z9) H := hP
        have hD : va_D A (ceM cI cZ th0 th1 th2 th3 th4 th5 th6 th7 th8 th9 z9) := hD
        refine lv_aload_n hx hb dX11_pebbles_55 rfl (lv_at hl 0 rfl) ?_
        refine va_get (D := D) (ci := 8) (v := .int (M_foot z9)) (C := RX11) (T := TX11) (N := 17) hx hb hts hi_X11 hown hK hP 0 rfl rfl 9 (by decide) (hts (.fieldLink RX11 60 "FairWheelModel" "foot" "I") (List.mem_of_getElem? (i := 2) rfl)) (fun _ h9 => h9) rfl dX11_pebbles_56 ?_
        refine lv_icmp_ne (tgt := 64) hx hb dX11_pebbles_59 (by decide) (fun c11 => ?_) (fun c11 => ?_)
        · have hf := (if_neg c11).symm.trans hf
          refine lv_iinc (v := (v2 + (1 : Int32))) (lv' := [(2, .int (v2 + (1 : Int32))), (0, .ref th0), (1, .int v1)]) hx hb dX11_pebbles_64 hl (k := 2) rfl rfl (by decide) rfl (fun ls hl => ?_)
          refine lv_goto (tgt := 26) hx hb dX11_pebbles_67 (by decide) ?_
          exact ih v1 (v2 + (1 : Int32)) z9 _ _ ls (lv_sub hl [1, 2, 0] rfl) hP hD hS hf
        · have hf := (if_pos c11).symm.trans hf
          refine lv_iload_n hx hb dX11_pebbles_62 rfl (lv_at hl 2 rfl) ?_
          exact k_iret (v := v2) (u := z9) hx hb hr hlocks hK hS eQ hf hP hD dX11_pebbles_63
  rw [f_X11_pebbles] at hf
  refine lv_iload_n hx hb dX11_pebbles_0 rfl (lv_at hl 1 rfl) ?_
  obtain ⟨z1, hz_z1, hf⟩ := o_bind hf
  refine k_calli (va_runS (As := [.int p1]) (rest := []) ⟨hx, hb, hml, hown, hts⟩ (c_X11_is8 l D cI cZ  H.size p1 z1 hz_z1) (va_cwS 1 hts gX11_pebbles_X11_is8 rfl rfl rfl hd_X11_is8 ⟨Nat.le_of_ble_eq_true rfl, Nat.le_of_ble_eq_true rfl⟩) (k_preS hK hP hD hS hA hE [] (by decide) rfl) rfl rfl hl.1 rfl (lv_room (Nat.le_of_ble_eq_true rfl)) dX11_pebbles_1 ⟨Nat.zero_le _, Nat.zero_le _⟩) hP hD hS hA [] [none, none, none, none, none, none, none, none, none, none] 0 rfl (by decide) (by decide) rfl rfl (fun H locs hP hD hS => ?_)
  have hP : va_P D vwCl (ceM cI cZ th0 th1 th2 th3 th4 th5 th6 th7 th8 th9 u_th) H := hP
  have hD : va_D A (ceM cI cZ th0 th1 th2 th3 th4 th5 th6 th7 th8 th9 u_th) := hD
  refine lv_if_ne (tgt := 9) hx hb dX11_pebbles_4 (by decide) (fun c2 => ?_) (fun c2 => ?_)
  · have hf := (if_neg c2).symm.trans hf
    refine lv_aload_n hx hb dX11_pebbles_9 rfl (lv_at hl 0 rfl) ?_
    obtain ⟨z3, hz_z3, hf⟩ := o_bind hf
    refine k_callv (va_runV (As := []) (rest := []) ⟨hx, hb, hml, hown, hts⟩ (c_X11_asNow l D cI cZ th0 th1 th2 th3 th4 th5 th6 th7 th8 th9 H.size u_th z3 hz_z3) (cwV 0 hts gX11_pebbles_X11_asNow rfl rfl rfl ⟨rfl, hd_X11_asNow⟩ ⟨Nat.le_of_ble_eq_true rfl, Nat.le_of_ble_eq_true rfl⟩) (k_preV hK hP hD hS hA hE [0, 1, 2, 3, 4, 5, 6, 7, 8, 9] (by decide) rfl (ci := 8) rfl rfl) rfl rfl hl.1 rfl (lv_room (Nat.le_of_ble_eq_true rfl)) dX11_pebbles_10 ⟨Nat.zero_le _, Nat.zero_le _⟩) hP hD hS hA [0, 1, 2, 3, 4, 5, 6, 7, 8, 9] [some 0, some 1, some 2, some 3, some 4, some 5, some 6, some 7, some 8, some 9] 10 rfl (by decide) (by decide) rfl rfl (fun H locs hP hD hS => ?_)
    have hP : va_P D vwCl (ceM cI cZ th0 th1 th2 th3 th4 th5 th6 th7 th8 th9 z3) H := hP
    have hD : va_D A (ceM cI cZ th0 th1 th2 th3 th4 th5 th6 th7 th8 th9 z3) := hD
    refine lv_aload_n hx hb dX11_pebbles_13 rfl (lv_at hl 0 rfl) ?_
    refine lv_iload_n hx hb dX11_pebbles_14 rfl (lv_at hl 1 rfl) ?_
    obtain ⟨z4, hz_z4, hf⟩ := o_bind hf
    refine k_calli (va_runV (As := [.int p1]) (rest := []) ⟨hx, hb, hml, hown, hts⟩ (c_X11_carOf l D cI cZ th0 th1 th2 th3 th4 th5 th6 th7 th8 th9 H.size z3 p1 z4 hz_z4) (cwV 1 hts gX11_pebbles_X11_carOf rfl rfl rfl ⟨rfl, hd_X11_carOf⟩ ⟨Nat.le_of_ble_eq_true rfl, Nat.le_of_ble_eq_true rfl⟩) (k_preV hK hP hD hS hA hE [0, 1, 2, 3, 4, 5, 6, 7, 8, 9] (by decide) rfl (ci := 8) rfl rfl) rfl rfl hl.1 rfl (lv_room (Nat.le_of_ble_eq_true rfl)) dX11_pebbles_15 ⟨Nat.zero_le _, Nat.zero_le _⟩) hP hD hS hA [0, 1, 2, 3, 4, 5, 6, 7, 8, 9] [some 0, some 1, some 2, some 3, some 4, some 5, some 6, some 7, some 8, some 9] 10 rfl (by decide) (by decide) rfl rfl (fun H locs hP hD hS => ?_)
    have hP : va_P D vwCl (ceM cI cZ th0 th1 th2 th3 th4 th5 th6 th7 th8 th9 z3) H := hP
    have hD : va_D A (ceM cI cZ th0 th1 th2 th3 th4 th5 th6 th7 th8 th9 z3) := hD
    refine lv_if_ge (tgt := 24) hx hb dX11_pebbles_18 (by decide) (fun c5 => ?_) (fun c5 => ?_)
    · have hf := (if_pos c5).symm.trans hf
      refine lv_iconst (v := 0) hx hb dX11_pebbles_24 (by decide) ?_
      refine lv_istore_n (lv' := [(2, .int (0 : Int32)), (0, .ref th0), (1, .int p1)]) hx hb dX11_pebbles_25 rfl hl (by decide) rfl (fun ls hl => ?_)
      exact hL26 oF p1 (0 : Int32) z3 _ _ ls (lv_sub hl [1, 2, 0] rfl) hP hD hS hf
    · have hf := (if_neg c5).symm.trans hf
      refine lv_bipush (v := -3) hx hb dX11_pebbles_21 (by decide) ?_
      exact k_iret (v := (-3 : Int32)) (u := z3) hx hb hr hlocks hK hS eQ hf hP hD dX11_pebbles_23
  · have hf := (if_pos c2).symm.trans hf
    refine lv_iconst (v := -1) hx hb dX11_pebbles_7 (by decide) ?_
    exact k_iret (v := (-1 : Int32)) (u := u_th) hx hb hr hlocks hK hS eQ hf hP hD dX11_pebbles_8
theorem hd_X11_greatestPull : yX11_greatestPull.cls ≠ "java/lang/invoke/MethodHandle" ∧ yX11_greatestPull.cls ≠ "java/lang/invoke/VarHandle" ∧ (parseMethodDescriptor yX11_greatestPull.desc).map (fun d => d.parameters.length) = some 0 := by decide +kernel
set_option maxHeartbeats 4000000 in
set_option maxRecDepth 100000 in
theorem c_X11_greatestPull (l : Launch) (D : va_G) (cI cZ : ClassId) (th0 : Nat) (th1 : Nat) (th2 : Nat) (th3 : Nat) (th4 : Nat) (th5 : Nat) (th6 : Nat) (th7 : Nat) (th8 : Nat) (th9 : Nat) (sz : Nat) (u_th : sM) (z : Int32 × Unit) (hf : f_X11_greatestPull u_th = some z) : Met l yX11_greatestPull wsX11_greatestPull rmX11_greatestPull (va_Pc [.ref th0] (wPr D cI cZ (ceM cI cZ th0 th1 th2 th3 th4 th5 th6 th7 th8 th9 u_th) sz)) (va_Qi (fun (r : Int32) (v : Unit) => (r, v) = z) (fun (v : Unit) t => wPo D cI cZ (va_A (ceM cI cZ th0 th1 th2 th3 th4 th5 th6 th7 th8 th9 u_th) sz) (ceM cI cZ th0 th1 th2 th3 th4 th5 th6 th7 th8 th9 u_th) t) (va_A (ceM cI cZ th0 th1 th2 th3 th4 th5 th6 th7 th8 th9 u_th) sz)) 0 0 (va_A (ceM cI cZ th0 th1 th2 th3 th4 th5 th6 th7 th8 th9 u_th) sz) := by
  refine k_enter (D := D) (cI := cI) (cZ := cZ) (wl := ceM cI cZ th0 th1 th2 th3 th4 th5 th6 th7 th8 th9 u_th) (sz := sz) (av := [.ref th0]) (cc := cX11_greatestPull) (maxL := 4) (ret := (some .int)) (Qc := fun A => va_Qi (fun (r : Int32) (v : Unit) => (r, v) = z) (fun (v : Unit) t => wPo D cI cZ (A) (ceM cI cZ th0 th1 th2 th3 th4 th5 th6 th7 th8 th9 u_th) t) (A)) (by decide) rfl (Nat.le_of_ble_eq_true rfl) ?_
  intro p e s m below meth c ls A Q H locs eQ hx hb hr hml hts hown hlocks hK hP hD hS hA hE hl
  have hown : s.vm.findClass RX11 = some m.cls := hown
  have hl : lv_has ls 4 [(0, .ref th0)] := hl
  have hJ26 : ∀ (K_4 : Int32 → Int32 → Option (Int32 × Unit)), (∀ (v1 : Int32) (v2 : Int32) (H : Heap) (locs : List Loc) (ls : Array Slot), lv_has ls 4 [(0, .ref th0), (1, .int v1), (2, .int v2)] → va_P D vwCl (ceM cI cZ th0 th1 th2 th3 th4 th5 th6 th7 th8 th9 u_th) H → va_D A (ceM cI cZ th0 th1 th2 th3 th4 th5 th6 th7 th8 th9 u_th) → va_S A s.heap H locs → K_4 v1 v2 = some z → W p l e (headSpec wsX11_greatestPull rmX11_greatestPull).room s m ([.ref th0] : List Value).toArray below meth c H locs 0 0 Q (F0 m 4 ls [])) → ∀ (v1 : Int32) (v2 : Int32) (s0 : Int32) (H : Heap) (locs : List Loc) (ls : Array Slot), lv_has ls 4 [(0, .ref th0), (1, .int v1), (2, .int v2)] → va_P D vwCl (ceM cI cZ th0 th1 th2 th3 th4 th5 th6 th7 th8 th9 u_th) H → va_D A (ceM cI cZ th0 th1 th2 th3 th4 th5 th6 th7 th8 th9 u_th) → va_S A s.heap H locs → f_X11_greatestPull_J26 u_th K_4 v1 v2 s0 = some z → W p l e (headSpec wsX11_greatestPull rmX11_greatestPull).room s m ([.ref th0] : List Value).toArray below meth c H locs 0 0 Q (F0 m 26 ls [.int s0]) := by
    intro K_4 hK_4 v1 v2 s0 H locs ls hl hP hD hS hf
    rw [f_X11_greatestPull_J26] at hf
    refine lv_istore_n (lv' := [(3, .int s0), (0, .ref th0), (1, .int v1), (2, .int v2)]) hx hb dX11_greatestPull_26 rfl hl (by decide) rfl (fun ls hl => ?_)
    refine lv_iload_n hx hb dX11_greatestPull_27 rfl (lv_at hl 0 rfl) ?_
    refine lv_iload_n hx hb dX11_greatestPull_28 rfl (lv_at hl 2 rfl) ?_
    refine lv_icmp_le (tgt := 36) hx hb dX11_greatestPull_29 (by decide) (fun c4 => ?_) (fun c4 => ?_)
    · have hf := (if_pos c4).symm.trans hf
      refine lv_iload_n hx hb dX11_greatestPull_36 rfl (lv_at hl 2 rfl) ?_
      refine lv_istore_n (lv' := [(1, .int v1), (3, .int s0), (0, .ref th0), (2, .int v2)]) hx hb dX11_greatestPull_37 rfl hl (by decide) rfl (fun ls hl => ?_)
      refine lv_iinc (v := (v2 + (1 : Int32))) (lv' := [(2, .int (v2 + (1 : Int32))), (1, .int v1), (3, .int s0), (0, .ref th0)]) hx hb dX11_greatestPull_38 hl (k := 3) rfl rfl (by decide) rfl (fun ls hl => ?_)
      refine lv_goto (tgt := 4) hx hb dX11_greatestPull_41 (by decide) ?_
      exact hK_4 v1 (v2 + (1 : Int32)) _ _ ls (lv_sub hl [3, 1, 0] rfl) hP hD hS hf
    · have hf := (if_neg c4).symm.trans hf
      refine lv_iload_n hx hb dX11_greatestPull_32 rfl (lv_at hl 0 rfl) ?_
      refine lv_goto (tgt := 37) hx hb dX11_greatestPull_33 (by decide) ?_
      refine lv_istore_n (lv' := [(1, .int s0), (3, .int s0), (0, .ref th0), (2, .int v2)]) hx hb dX11_greatestPull_37 rfl hl (by decide) rfl (fun ls hl => ?_)
      refine lv_iinc (v := (v2 + (1 : Int32))) (lv' := [(2, .int (v2 + (1 : Int32))), (1, .int s0), (3, .int s0), (0, .ref th0)]) hx hb dX11_greatestPull_38 hl (k := 3) rfl rfl (by decide) rfl (fun ls hl => ?_)
      refine lv_goto (tgt := 4) hx hb dX11_greatestPull_41 (by decide) ?_
      exact hK_4 s0 (v2 + (1 : Int32)) _ _ ls (lv_sub hl [3, 1, 0] rfl) hP hD hS hf
  have hL4 : ∀ (n : Nat), ∀ (v1 : Int32) (v2 : Int32) (H : Heap) (locs : List Loc) (ls : Array Slot), lv_has ls 4 [(0, .ref th0), (1, .int v1), (2, .int v2)] → va_P D vwCl (ceM cI cZ th0 th1 th2 th3 th4 th5 th6 th7 th8 th9 u_th) H → va_D A (ceM cI cZ th0 th1 th2 th3 th4 th5 th6 th7 th8 th9 u_th) → va_S A s.heap H locs → f_X11_greatestPull_L4 u_th n v1 v2 = some z → W p l e (headSpec wsX11_greatestPull rmX11_greatestPull).room s m ([.ref th0] : List Value).toArray below meth c H locs 0 0 Q (F0 m 4 ls []) := by
    intro n
    induction n with
    | zero =>
      intro v1 v2 H locs ls hl hP hD hS hf
      exact absurd (show (none : Option (Int32 × Unit)) = some z from hf) (fun h => by cases h)
    | succ n ih =>
      intro v1 v2 H locs ls hl hP hD hS hf
      rw [f_X11_greatestPull_L4] at hf
      refine lv_iload_n hx hb dX11_greatestPull_4 rfl (lv_at hl 2 rfl) ?_
      refine lv_bipush (v := 8) hx hb dX11_greatestPull_5 (by decide) ?_
      refine lv_icmp_ge (tgt := 44) hx hb dX11_greatestPull_7 (by decide) (fun c1 => ?_) (fun c1 => ?_)
      · have hf := (if_pos c1).symm.trans hf
        refine lv_iload_n hx hb dX11_greatestPull_44 rfl (lv_at hl 1 rfl) ?_
        exact k_iret (v := v1) (u := ()) hx hb hr hlocks hK hS eQ hf hP hD dX11_greatestPull_45
      · have hf := (if_neg c1).symm.trans hf
        refine lv_aload_n hx hb dX11_greatestPull_10 rfl (lv_at hl 0 rfl) ?_
        refine lv_iload_n hx hb dX11_greatestPull_11 rfl (lv_at hl 2 rfl) ?_
        obtain ⟨z2, hz_z2, hf⟩ := o_bind hf
        refine k_calli (va_runV (As := [.int v2]) (rest := []) ⟨hx, hb, hml, hown, hts⟩ (c_X11_pullAt l D cI cZ th0 th1 th2 th3 th4 th5 th6 th7 th8 th9 H.size u_th v2 z2 hz_z2) (cwV 1 hts gX11_greatestPull_X11_pullAt rfl rfl rfl ⟨rfl, hd_X11_pullAt⟩ ⟨Nat.le_of_ble_eq_true rfl, Nat.le_of_ble_eq_true rfl⟩) (k_preV hK hP hD hS hA hE [0, 1, 2, 3, 4, 5, 6, 7, 8, 9] (by decide) rfl (ci := 8) rfl rfl) rfl rfl hl.1 rfl (lv_room (Nat.le_of_ble_eq_true rfl)) dX11_greatestPull_12 ⟨Nat.zero_le _, Nat.zero_le _⟩) hP hD hS hA [0, 1, 2, 3, 4, 5, 6, 7, 8, 9] [some 0, some 1, some 2, some 3, some 4, some 5, some 6, some 7, some 8, some 9] 10 rfl (by decide) (by decide) rfl rfl (fun H locs hP hD hS => ?_)
        have hP : va_P D vwCl (ceM cI cZ th0 th1 th2 th3 th4 th5 th6 th7 th8 th9 u_th) H := hP
        have hD : va_D A (ceM cI cZ th0 th1 th2 th3 th4 th5 th6 th7 th8 th9 u_th) := hD
        refine lv_istore_n (lv' := [(3, .int z2.1), (0, .ref th0), (1, .int v1), (2, .int v2)]) hx hb dX11_greatestPull_15 rfl hl (by decide) rfl (fun ls hl => ?_)
        refine lv_iload_n hx hb dX11_greatestPull_16 rfl (lv_at hl 0 rfl) ?_
        refine lv_if_ge (tgt := 25) hx hb dX11_greatestPull_17 (by decide) (fun c3 => ?_) (fun c3 => ?_)
        · have hf := (if_pos c3).symm.trans hf
          refine lv_iload_n hx hb dX11_greatestPull_25 rfl (lv_at hl 0 rfl) ?_
          exact hJ26 (f_X11_greatestPull_L4 u_th n) ih v1 v2 z2.1 _ _ ls (lv_sub hl [1, 2, 3] rfl) hP hD hS hf
        · have hf := (if_neg c3).symm.trans hf
          refine lv_iload_n hx hb dX11_greatestPull_20 rfl (lv_at hl 0 rfl) ?_
          refine lv_ineg hx hb dX11_greatestPull_21 ?_
          refine lv_goto (tgt := 26) hx hb dX11_greatestPull_22 (by decide) ?_
          exact hJ26 (f_X11_greatestPull_L4 u_th n) ih v1 v2 (-z2.1) _ _ ls (lv_sub hl [1, 2, 3] rfl) hP hD hS hf
  rw [f_X11_greatestPull] at hf
  refine lv_iconst (v := 0) hx hb dX11_greatestPull_0 (by decide) ?_
  refine lv_istore_n (lv' := [(1, .int (0 : Int32)), (0, .ref th0)]) hx hb dX11_greatestPull_1 rfl hl (by decide) rfl (fun ls hl => ?_)
  refine lv_iconst (v := 0) hx hb dX11_greatestPull_2 (by decide) ?_
  refine lv_istore_n (lv' := [(2, .int (0 : Int32)), (1, .int (0 : Int32)), (0, .ref th0)]) hx hb dX11_greatestPull_3 rfl hl (by decide) rfl (fun ls hl => ?_)
  exact hL4 oF (0 : Int32) (0 : Int32) _ _ ls (lv_sub hl [2, 1, 0] rfl) hP hD hS hf
theorem hd_X11_brake : yX11_brake.cls ≠ "java/lang/invoke/MethodHandle" ∧ yX11_brake.cls ≠ "java/lang/invoke/VarHandle" ∧ (parseMethodDescriptor yX11_brake.desc).map (fun d => d.parameters.length) = some 0 := by decide +kernel
set_option maxHeartbeats 4000000 in
set_option maxRecDepth 100000 in
theorem c_X11_brake (l : Launch) (D : va_G) (cI cZ : ClassId) (th0 : Nat) (th1 : Nat) (th2 : Nat) (th3 : Nat) (th4 : Nat) (th5 : Nat) (th6 : Nat) (th7 : Nat) (th8 : Nat) (th9 : Nat) (sz : Nat) (u_th : sM) (z : Int32 × sM) (hf : f_X11_brake u_th = some z) : Met l yX11_brake wsX11_brake rmX11_brake (va_Pc [.ref th0] (wPr D cI cZ (ceM cI cZ th0 th1 th2 th3 th4 th5 th6 th7 th8 th9 u_th) sz)) (va_Qi (fun (r : Int32) (v : sM) => (r, v) = z) (fun (v : sM) t => wPo D cI cZ (va_A (ceM cI cZ th0 th1 th2 th3 th4 th5 th6 th7 th8 th9 u_th) sz) (ceM cI cZ th0 th1 th2 th3 th4 th5 th6 th7 th8 th9 v) t) (va_A (ceM cI cZ th0 th1 th2 th3 th4 th5 th6 th7 th8 th9 u_th) sz)) 0 0 (va_A (ceM cI cZ th0 th1 th2 th3 th4 th5 th6 th7 th8 th9 u_th) sz) := by
  refine k_enter (D := D) (cI := cI) (cZ := cZ) (wl := ceM cI cZ th0 th1 th2 th3 th4 th5 th6 th7 th8 th9 u_th) (sz := sz) (av := [.ref th0]) (cc := cX11_brake) (maxL := 1) (ret := (some .int)) (Qc := fun A => va_Qi (fun (r : Int32) (v : sM) => (r, v) = z) (fun (v : sM) t => wPo D cI cZ (A) (ceM cI cZ th0 th1 th2 th3 th4 th5 th6 th7 th8 th9 v) t) (A)) (by decide) rfl (Nat.le_of_ble_eq_true rfl) ?_
  intro p e s m below meth c ls A Q H locs eQ hx hb hr hml hts hown hlocks hK hP hD hS hA hE hl
  have hown : s.vm.findClass RX11 = some m.cls := hown
  have hl : lv_has ls 1 [(0, .ref th0)] := hl
  rw [f_X11_brake] at hf
  refine lv_aload_n hx hb dX11_brake_0 rfl (lv_at hl 0 rfl) ?_
  obtain ⟨z1, hz_z1, hf⟩ := o_bind hf
  refine k_callv (va_runV (As := []) (rest := []) ⟨hx, hb, hml, hown, hts⟩ (c_X11_asNow l D cI cZ th0 th1 th2 th3 th4 th5 th6 th7 th8 th9 H.size u_th z1 hz_z1) (cwV 0 hts gX11_brake_X11_asNow rfl rfl rfl ⟨rfl, hd_X11_asNow⟩ ⟨Nat.le_of_ble_eq_true rfl, Nat.le_of_ble_eq_true rfl⟩) (k_preV hK hP hD hS hA hE [0, 1, 2, 3, 4, 5, 6, 7, 8, 9] (by decide) rfl (ci := 8) rfl rfl) rfl rfl hl.1 rfl (lv_room (Nat.le_of_ble_eq_true rfl)) dX11_brake_1 ⟨Nat.zero_le _, Nat.zero_le _⟩) hP hD hS hA [0, 1, 2, 3, 4, 5, 6, 7, 8, 9] [some 0, some 1, some 2, some 3, some 4, some 5, some 6, some 7, some 8, some 9] 10 rfl (by decide) (by decide) rfl rfl (fun H locs hP hD hS => ?_)
  have hP : va_P D vwCl (ceM cI cZ th0 th1 th2 th3 th4 th5 th6 th7 th8 th9 z1) H := hP
  have hD : va_D A (ceM cI cZ th0 th1 th2 th3 th4 th5 th6 th7 th8 th9 z1) := hD
  refine lv_aload_n hx hb dX11_brake_4 rfl (lv_at hl 0 rfl) ?_
  obtain ⟨z2, hz_z2, hf⟩ := o_bind hf
  refine k_calli (va_runV (As := []) (rest := []) ⟨hx, hb, hml, hown, hts⟩ (c_X11_greatestPull l D cI cZ th0 th1 th2 th3 th4 th5 th6 th7 th8 th9 H.size z1 z2 hz_z2) (cwV 0 hts gX11_brake_X11_greatestPull rfl rfl rfl ⟨rfl, hd_X11_greatestPull⟩ ⟨Nat.le_of_ble_eq_true rfl, Nat.le_of_ble_eq_true rfl⟩) (k_preV hK hP hD hS hA hE [0, 1, 2, 3, 4, 5, 6, 7, 8, 9] (by decide) rfl (ci := 8) rfl rfl) rfl rfl hl.1 rfl (lv_room (Nat.le_of_ble_eq_true rfl)) dX11_brake_5 ⟨Nat.zero_le _, Nat.zero_le _⟩) hP hD hS hA [0, 1, 2, 3, 4, 5, 6, 7, 8, 9] [some 0, some 1, some 2, some 3, some 4, some 5, some 6, some 7, some 8, some 9] 10 rfl (by decide) (by decide) rfl rfl (fun H locs hP hD hS => ?_)
  have hP : va_P D vwCl (ceM cI cZ th0 th1 th2 th3 th4 th5 th6 th7 th8 th9 z1) H := hP
  have hD : va_D A (ceM cI cZ th0 th1 th2 th3 th4 th5 th6 th7 th8 th9 z1) := hD
  exact k_iret (v := z2.1) (u := z1) hx hb hr hlocks hK hS eQ hf hP hD dX11_brake_8
theorem hd_X11_isSeated : yX11_isSeated.cls ≠ "java/lang/invoke/MethodHandle" ∧ yX11_isSeated.cls ≠ "java/lang/invoke/VarHandle" ∧ (parseMethodDescriptor yX11_isSeated.desc).map (fun d => d.parameters.length) = some 3 := by decide +kernel
set_option maxHeartbeats 4000000 in
set_option maxRecDepth 100000 in
theorem c_X11_isSeated (l : Launch) (D : va_G) (cI cZ : ClassId) (th0 : Nat) (th1 : Nat) (th2 : Nat) (th3 : Nat) (th4 : Nat) (th5 : Nat) (th6 : Nat) (th7 : Nat) (th8 : Nat) (th9 : Nat) (sz : Nat) (u_th : sM) (p1 : Int32) (p2 : Int32) (p3 : Int32) (z : Int32 × sM) (hf : f_X11_isSeated u_th p1 p2 p3 = some z) : Met l yX11_isSeated wsX11_isSeated rmX11_isSeated (va_Pc [.ref th0, .int p1, .int p2, .int p3] (wPr D cI cZ (ceM cI cZ th0 th1 th2 th3 th4 th5 th6 th7 th8 th9 u_th) sz)) (va_Qi (fun (r : Int32) (v : sM) => (r, v) = z) (fun (v : sM) t => wPo D cI cZ (va_A (ceM cI cZ th0 th1 th2 th3 th4 th5 th6 th7 th8 th9 u_th) sz) (ceM cI cZ th0 th1 th2 th3 th4 th5 th6 th7 th8 th9 v) t) (va_A (ceM cI cZ th0 th1 th2 th3 th4 th5 th6 th7 th8 th9 u_th) sz)) 0 0 (va_A (ceM cI cZ th0 th1 th2 th3 th4 th5 th6 th7 th8 th9 u_th) sz) := by
  refine k_enter (D := D) (cI := cI) (cZ := cZ) (wl := ceM cI cZ th0 th1 th2 th3 th4 th5 th6 th7 th8 th9 u_th) (sz := sz) (av := [.ref th0, .int p1, .int p2, .int p3]) (cc := cX11_isSeated) (maxL := 8) (ret := (some .boolean)) (Qc := fun A => va_Qi (fun (r : Int32) (v : sM) => (r, v) = z) (fun (v : sM) t => wPo D cI cZ (A) (ceM cI cZ th0 th1 th2 th3 th4 th5 th6 th7 th8 th9 v) t) (A)) (by decide) rfl (Nat.le_of_ble_eq_true rfl) ?_
  intro p e s m below meth c ls A Q H locs eQ hx hb hr hml hts hown hlocks hK hP hD hS hA hE hl
  have hown : s.vm.findClass RX11 = some m.cls := hown
  have hl : lv_has ls 8 [(0, .ref th0), (1, .int p1), (2, .int p2), (3, .int p3)] := hl
  have hi_X11 : ∀ w ∈ wsX110, w ∈ wsX11_isSeated := fun w h => List.mem_cons_of_mem _ (List.mem_append_right _ h)
  have hJ99 : ∀ (K_47 : Int32 → Int32 → Int32 → Int32 → Int32 → sM → Option (Int32 × sM)), (∀ (v1 : Int32) (v3 : Int32) (v4 : Int32) (v5 : Int32) (v6 : Int32) (u_th : sM) (H : Heap) (locs : List Loc) (ls : Array Slot), lv_has ls 8 [(0, .ref th0), (1, .int v1), (3, .int v3), (4, .int v4), (5, .int v5), (6, .int v6)] → va_P D vwCl (ceM cI cZ th0 th1 th2 th3 th4 th5 th6 th7 th8 th9 u_th) H → va_D A (ceM cI cZ th0 th1 th2 th3 th4 th5 th6 th7 th8 th9 u_th) → va_S A s.heap H locs → K_47 v1 v3 v4 v5 v6 u_th = some z → W p l e (headSpec wsX11_isSeated rmX11_isSeated).room s m ([.ref th0, .int p1, .int p2, .int p3] : List Value).toArray below meth c H locs 0 0 Q (F0 m 47 ls [])) → ∀ (v1 : Int32) (v3 : Int32) (v4 : Int32) (v6 : Int32) (v7 : Int32) (s0 : Int32) (u_th : sM) (H : Heap) (locs : List Loc) (ls : Array Slot), lv_has ls 8 [(0, .ref th0), (1, .int v1), (3, .int v3), (4, .int v4), (6, .int v6), (7, .int v7)] → va_P D vwCl (ceM cI cZ th0 th1 th2 th3 th4 th5 th6 th7 th8 th9 u_th) H → va_D A (ceM cI cZ th0 th1 th2 th3 th4 th5 th6 th7 th8 th9 u_th) → va_S A s.heap H locs → f_X11_isSeated_J99 K_47 v1 v3 v4 v6 v7 s0 u_th = some z → W p l e (headSpec wsX11_isSeated rmX11_isSeated).room s m ([.ref th0, .int p1, .int p2, .int p3] : List Value).toArray below meth c H locs 0 0 Q (F0 m 99 ls [.int s0]) := by
    intro K_47 hK_47 v1 v3 v4 v6 v7 s0 u_th H locs ls hl hP hD hS hf
    rw [f_X11_isSeated_J99] at hf
    refine lv_istore (lv' := [(5, .int s0), (0, .ref th0), (1, .int v1), (3, .int v3), (4, .int v4), (6, .int v6), (7, .int v7)]) hx hb dX11_isSeated_99 hl (by decide) rfl (fun ls hl => ?_)
    refine lv_aload_n hx hb dX11_isSeated_101 rfl (lv_at hl 1 rfl) ?_
    refine va_get (D := D) (ci := 8) (v := .ref th6) (C := RX11) (T := TX11) (N := 17) hx hb hts hi_X11 hown hK hP 0 rfl rfl 12 (by decide) (hts (.fieldLink RX11 29 "FairWheelModel" "now" "[I") (List.mem_of_getElem? (i := 1) rfl)) (fun _ h9 => h9) rfl dX11_isSeated_102 ?_
    refine lv_iload hx hb dX11_isSeated_105 (lv_at hl 6 rfl) ?_
    refine lv_iload hx hb dX11_isSeated_107 (lv_at hl 5 rfl) ?_
    by_cases c12 : v7 < 0 ∨ 8 ≤ v7.toNatClampNeg
    · have hf := (if_pos c12).symm.trans hf
      cases hf
    have hf := (if_neg c12).symm.trans hf
    refine va_iast hx hb hK hP hD hS 6 0 rfl rfl (show vp_in v7 8 from c12) dX11_isSeated_109 (fun H locs hP hD hS => ?_)
    have hP : va_P D vwCl (ceM cI cZ th0 th1 th2 th3 th4 th5 th6 th7 th8 th9 ((M_weight u_th), (M_sits u_th), (M_stones u_th), (M_at u_th), (M_drag u_th), (M_sights u_th), (M_sight u_th), (M_signs u_th), (M_pad u_th), (M_foot u_th), (M_turned u_th), (M_bothWays u_th), (upd (M_now u_th) v7.toNatClampNeg v6), (M_heap u_th), (M_reason u_th), (M_image u_th), (M_isKept u_th))) H := hP
    have hD : va_D A (ceM cI cZ th0 th1 th2 th3 th4 th5 th6 th7 th8 th9 ((M_weight u_th), (M_sits u_th), (M_stones u_th), (M_at u_th), (M_drag u_th), (M_sights u_th), (M_sight u_th), (M_signs u_th), (M_pad u_th), (M_foot u_th), (M_turned u_th), (M_bothWays u_th), (upd (M_now u_th) v7.toNatClampNeg v6), (M_heap u_th), (M_reason u_th), (M_image u_th), (M_isKept u_th))) := hD
    refine lv_iinc (v := (v6 + (1 : Int32))) (lv' := [(6, .int (v6 + (1 : Int32))), (5, .int s0), (0, .ref th0), (1, .int v1), (3, .int v3), (4, .int v4), (7, .int v7)]) hx hb dX11_isSeated_110 hl (k := 5) rfl rfl (by decide) rfl (fun ls hl => ?_)
    refine lv_goto (tgt := 47) hx hb dX11_isSeated_113 (by decide) ?_
    exact hK_47 v1 v3 v4 s0 (v6 + (1 : Int32)) ((M_weight u_th), (M_sits u_th), (M_stones u_th), (M_at u_th), (M_drag u_th), (M_sights u_th), (M_sight u_th), (M_signs u_th), (M_pad u_th), (M_foot u_th), (M_turned u_th), (M_bothWays u_th), (upd (M_now u_th) v7.toNatClampNeg v6), (M_heap u_th), (M_reason u_th), (M_image u_th), (M_isKept u_th)) _ _ ls (lv_sub hl [2, 3, 4, 5, 1, 0] rfl) hP hD hS hf
  have hL47 : ∀ (n : Nat), ∀ (v1 : Int32) (v3 : Int32) (v4 : Int32) (v5 : Int32) (v6 : Int32) (u_th : sM) (H : Heap) (locs : List Loc) (ls : Array Slot), lv_has ls 8 [(0, .ref th0), (1, .int v1), (3, .int v3), (4, .int v4), (5, .int v5), (6, .int v6)] → va_P D vwCl (ceM cI cZ th0 th1 th2 th3 th4 th5 th6 th7 th8 th9 u_th) H → va_D A (ceM cI cZ th0 th1 th2 th3 th4 th5 th6 th7 th8 th9 u_th) → va_S A s.heap H locs → f_X11_isSeated_L47 n v1 v3 v4 v5 v6 u_th = some z → W p l e (headSpec wsX11_isSeated rmX11_isSeated).room s m ([.ref th0, .int p1, .int p2, .int p3] : List Value).toArray below meth c H locs 0 0 Q (F0 m 47 ls []) := by
    intro n
    induction n with
    | zero =>
      intro v1 v3 v4 v5 v6 u_th H locs ls hl hP hD hS hf
      exact absurd (show (none : Option (Int32 × sM)) = some z from hf) (fun h => by cases h)
    | succ n ih =>
      intro v1 v3 v4 v5 v6 u_th H locs ls hl hP hD hS hf
      rw [f_X11_isSeated_L47] at hf
      refine lv_iload hx hb dX11_isSeated_47 (lv_at hl 5 rfl) ?_
      refine lv_bipush (v := 8) hx hb dX11_isSeated_49 (by decide) ?_
      refine lv_icmp_ge (tgt := 116) hx hb dX11_isSeated_51 (by decide) (fun c3 => ?_) (fun c3 => ?_)
      · have hf := (if_pos c3).symm.trans hf
        refine lv_iload hx hb dX11_isSeated_116 (lv_at hl 4 rfl) ?_
        by_cases c4 : v5 = 0 ∨ v5 = 1
        case neg =>
          have hf := (if_neg c4).symm.trans hf
          cases hf
        have hf := (if_pos c4).symm.trans hf
        exact k_zret (v := v5) (u := u_th) hx hb hr hlocks hK hS eQ (k_zb c4) hf hP hD dX11_isSeated_118
      · have hf := (if_neg c3).symm.trans hf
        refine lv_iload hx hb dX11_isSeated_54 (lv_at hl 4 rfl) ?_
        refine lv_if_eq (tgt := 116) hx hb dX11_isSeated_56 (by decide) (fun c5 => ?_) (fun c5 => ?_)
        · have hf := (if_pos c5).symm.trans hf
          refine lv_iload hx hb dX11_isSeated_116 (lv_at hl 4 rfl) ?_
          by_cases c6 : v5 = 0 ∨ v5 = 1
          case neg =>
            have hf := (if_neg c6).symm.trans hf
            cases hf
          have hf := (if_pos c6).symm.trans hf
          exact k_zret (v := v5) (u := u_th) hx hb hr hlocks hK hS eQ (k_zb c6) hf hP hD dX11_isSeated_118
        · have hf := (if_neg c5).symm.trans hf
          refine lv_iload_n hx hb dX11_isSeated_59 rfl (lv_at hl 1 rfl) ?_
          refine lv_iload hx hb dX11_isSeated_60 (lv_at hl 5 rfl) ?_
          obtain ⟨z7, hz_z7, hf⟩ := o_bind hf
          refine k_calli (va_runS (As := [.int v1, .int v6]) (rest := []) ⟨hx, hb, hml, hown, hts⟩ (c_X11_has l D cI cZ  H.size v1 v6 z7 hz_z7) (va_cwS 2 hts gX11_isSeated_X11_has rfl rfl rfl hd_X11_has ⟨Nat.le_of_ble_eq_true rfl, Nat.le_of_ble_eq_true rfl⟩) (k_preS hK hP hD hS hA hE [] (by decide) rfl) rfl rfl hl.1 rfl (lv_room (Nat.le_of_ble_eq_true rfl)) dX11_isSeated_62 ⟨Nat.zero_le _, Nat.zero_le _⟩) hP hD hS hA [] [none, none, none, none, none, none, none, none, none, none] 0 rfl (by decide) (by decide) rfl rfl (fun H locs hP hD hS => ?_)
          have hP : va_P D vwCl (ceM cI cZ th0 th1 th2 th3 th4 th5 th6 th7 th8 th9 u_th) H := hP
          have hD : va_D A (ceM cI cZ th0 th1 th2 th3 th4 th5 th6 th7 th8 th9 u_th) := hD
          refine lv_if_eq (tgt := 110) hx hb dX11_isSeated_65 (by decide) (fun c8 => ?_) (fun c8 => ?_)
          · have hf := (if_pos c8).symm.trans hf
            refine lv_iinc (v := (v6 + (1 : Int32))) (lv' := [(6, .int (v6 + (1 : Int32))), (0, .ref th0), (1, .int v1), (3, .int v3), (4, .int v4), (5, .int v5)]) hx hb dX11_isSeated_110 hl (k := 5) rfl rfl (by decide) rfl (fun ls hl => ?_)
            refine lv_goto (tgt := 47) hx hb dX11_isSeated_113 (by decide) ?_
            exact ih v1 v3 v4 v5 (v6 + (1 : Int32)) u_th _ _ ls (lv_sub hl [1, 2, 3, 4, 5, 0] rfl) hP hD hS hf
          · have hf := (if_neg c8).symm.trans hf
            refine lv_iload hx hb dX11_isSeated_68 (lv_at hl 3 rfl) ?_
            refine lv_bipush (v := 8) hx hb dX11_isSeated_70 (by decide) ?_
            refine lv_idiv hx hb dX11_isSeated_72 (by decide) ?_
            refine lv_istore (lv' := [(4, .int (v4 / (8 : Int32))), (0, .ref th0), (1, .int v1), (3, .int v3), (5, .int v5), (6, .int v6)]) hx hb dX11_isSeated_73 hl (by decide) rfl (fun ls hl => ?_)
            refine lv_iload_n hx hb dX11_isSeated_75 rfl (lv_at hl 3 rfl) ?_
            refine lv_iload hx hb dX11_isSeated_76 (lv_at hl 0 rfl) ?_
            by_cases c9 : (v4 / (8 : Int32)) = 0
            · have hf := (if_pos c9).symm.trans hf
              cases hf
            have hf := (if_neg c9).symm.trans hf
            refine lv_idiv hx hb dX11_isSeated_78 c9 ?_
            refine lv_bipush (v := 8) hx hb dX11_isSeated_79 (by decide) ?_
            refine lv_irem hx hb dX11_isSeated_81 (by decide) ?_
            refine lv_istore (lv' := [(7, .int ((v3 / (v4 / (8 : Int32))) - (v3 / (v4 / (8 : Int32))) / (8 : Int32) * (8 : Int32))), (4, .int (v4 / (8 : Int32))), (0, .ref th0), (1, .int v1), (3, .int v3), (5, .int v5), (6, .int v6)]) hx hb dX11_isSeated_82 hl (by decide) rfl (fun ls hl => ?_)
            refine lv_aload_n hx hb dX11_isSeated_84 rfl (lv_at hl 2 rfl) ?_
            refine va_get (D := D) (ci := 8) (v := .ref th6) (C := RX11) (T := TX11) (N := 17) hx hb hts hi_X11 hown hK hP 0 rfl rfl 12 (by decide) (hts (.fieldLink RX11 29 "FairWheelModel" "now" "[I") (List.mem_of_getElem? (i := 1) rfl)) (fun _ h9 => h9) rfl dX11_isSeated_85 ?_
            refine lv_iload hx hb dX11_isSeated_88 (lv_at hl 0 rfl) ?_
            by_cases c10 : ((v3 / (v4 / (8 : Int32))) - (v3 / (v4 / (8 : Int32))) / (8 : Int32) * (8 : Int32)) < 0 ∨ 8 ≤ ((v3 / (v4 / (8 : Int32))) - (v3 / (v4 / (8 : Int32))) / (8 : Int32) * (8 : Int32)).toNatClampNeg
            · have hf := (if_pos c10).symm.trans hf
              cases hf
            have hf := (if_neg c10).symm.trans hf
            refine va_iald hx hb hK hP 6 0 rfl rfl (show vp_in ((v3 / (v4 / (8 : Int32))) - (v3 / (v4 / (8 : Int32))) / (8 : Int32) * (8 : Int32)) 8 from c10) dX11_isSeated_90 ?_
            refine lv_if_ge (tgt := 98) hx hb dX11_isSeated_91 (by decide) (fun c11 => ?_) (fun c11 => ?_)
            · have hf := (if_pos c11).symm.trans hf
              refine lv_iconst (v := 0) hx hb dX11_isSeated_98 (by decide) ?_
              exact hJ99 (f_X11_isSeated_L47 n) ih v1 v3 (v4 / (8 : Int32)) v6 ((v3 / (v4 / (8 : Int32))) - (v3 / (v4 / (8 : Int32))) / (8 : Int32) * (8 : Int32)) (0 : Int32) u_th _ _ ls (lv_sub hl [2, 3, 4, 1, 6, 0] rfl) hP hD hS hf
            · have hf := (if_neg c11).symm.trans hf
              refine lv_iconst (v := 1) hx hb dX11_isSeated_94 (by decide) ?_
              refine lv_goto (tgt := 99) hx hb dX11_isSeated_95 (by decide) ?_
              exact hJ99 (f_X11_isSeated_L47 n) ih v1 v3 (v4 / (8 : Int32)) v6 ((v3 / (v4 / (8 : Int32))) - (v3 / (v4 / (8 : Int32))) / (8 : Int32) * (8 : Int32)) (1 : Int32) u_th _ _ ls (lv_sub hl [2, 3, 4, 1, 6, 0] rfl) hP hD hS hf
  have hL3 : ∀ (n : Nat), ∀ (v1 : Int32) (v2 : Int32) (v3 : Int32) (v4 : Int32) (u_th : sM) (H : Heap) (locs : List Loc) (ls : Array Slot), lv_has ls 8 [(0, .ref th0), (1, .int v1), (2, .int v2), (3, .int v3), (4, .int v4)] → va_P D vwCl (ceM cI cZ th0 th1 th2 th3 th4 th5 th6 th7 th8 th9 u_th) H → va_D A (ceM cI cZ th0 th1 th2 th3 th4 th5 th6 th7 th8 th9 u_th) → va_S A s.heap H locs → f_X11_isSeated_L3 n v1 v2 v3 v4 u_th = some z → W p l e (headSpec wsX11_isSeated rmX11_isSeated).room s m ([.ref th0, .int p1, .int p2, .int p3] : List Value).toArray below meth c H locs 0 0 Q (F0 m 3 ls []) := by
    intro n
    induction n with
    | zero =>
      intro v1 v2 v3 v4 u_th H locs ls hl hP hD hS hf
      exact absurd (show (none : Option (Int32 × sM)) = some z from hf) (fun h => by cases h)
    | succ n ih =>
      intro v1 v2 v3 v4 u_th H locs ls hl hP hD hS hf
      rw [f_X11_isSeated_L3] at hf
      refine lv_iload hx hb dX11_isSeated_3 (lv_at hl 4 rfl) ?_
      refine lv_bipush (v := 8) hx hb dX11_isSeated_5 (by decide) ?_
      refine lv_icmp_ge (tgt := 33) hx hb dX11_isSeated_7 (by decide) (fun c1 => ?_) (fun c1 => ?_)
      · have hf := (if_pos c1).symm.trans hf
        refine lv_bipush (v := 8) hx hb dX11_isSeated_33 (by decide) ?_
        refine lv_iload_n hx hb dX11_isSeated_35 rfl (lv_at hl 2 rfl) ?_
        obtain ⟨z2, hz_z2, hf⟩ := o_bind hf
        refine k_calli (va_runS (As := [.int (8 : Int32), .int v2]) (rest := []) ⟨hx, hb, hml, hown, hts⟩ (c_X11_powerOf l D cI cZ  H.size (8 : Int32) v2 z2 hz_z2) (va_cwS 2 hts gX11_isSeated_X11_powerOf rfl rfl rfl hd_X11_powerOf ⟨Nat.le_of_ble_eq_true rfl, Nat.le_of_ble_eq_true rfl⟩) (k_preS hK hP hD hS hA hE [] (by decide) rfl) rfl rfl hl.1 rfl (lv_room (Nat.le_of_ble_eq_true rfl)) dX11_isSeated_36 ⟨Nat.zero_le _, Nat.zero_le _⟩) hP hD hS hA [] [none, none, none, none, none, none, none, none, none, none] 0 rfl (by decide) (by decide) rfl rfl (fun H locs hP hD hS => ?_)
        have hP : va_P D vwCl (ceM cI cZ th0 th1 th2 th3 th4 th5 th6 th7 th8 th9 u_th) H := hP
        have hD : va_D A (ceM cI cZ th0 th1 th2 th3 th4 th5 th6 th7 th8 th9 u_th) := hD
        refine lv_istore (lv' := [(4, .int z2.1), (0, .ref th0), (1, .int v1), (2, .int v2), (3, .int v3)]) hx hb dX11_isSeated_39 hl (by decide) rfl (fun ls hl => ?_)
        refine lv_iconst (v := 1) hx hb dX11_isSeated_41 (by decide) ?_
        refine lv_istore (lv' := [(5, .int (1 : Int32)), (4, .int z2.1), (0, .ref th0), (1, .int v1), (2, .int v2), (3, .int v3)]) hx hb dX11_isSeated_42 hl (by decide) rfl (fun ls hl => ?_)
        refine lv_iconst (v := 0) hx hb dX11_isSeated_44 (by decide) ?_
        refine lv_istore (lv' := [(6, .int (0 : Int32)), (5, .int (1 : Int32)), (4, .int z2.1), (0, .ref th0), (1, .int v1), (2, .int v2), (3, .int v3)]) hx hb dX11_isSeated_45 hl (by decide) rfl (fun ls hl => ?_)
        exact hL47 oF v1 v3 z2.1 (1 : Int32) (0 : Int32) u_th _ _ ls (lv_sub hl [3, 4, 6, 2, 1, 0] rfl) hP hD hS hf
      · have hf := (if_neg c1).symm.trans hf
        refine lv_aload_n hx hb dX11_isSeated_10 rfl (lv_at hl 0 rfl) ?_
        refine va_get (D := D) (ci := 8) (v := .ref th6) (C := RX11) (T := TX11) (N := 17) hx hb hts hi_X11 hown hK hP 0 rfl rfl 12 (by decide) (hts (.fieldLink RX11 29 "FairWheelModel" "now" "[I") (List.mem_of_getElem? (i := 1) rfl)) (fun _ h9 => h9) rfl dX11_isSeated_11 ?_
        refine lv_iload hx hb dX11_isSeated_14 (lv_at hl 4 rfl) ?_
        refine lv_bipush (v := -6) hx hb dX11_isSeated_16 (by decide) ?_
        by_cases c13 : v4 < 0 ∨ 8 ≤ v4.toNatClampNeg
        · have hf := (if_pos c13).symm.trans hf
          cases hf
        have hf := (if_neg c13).symm.trans hf
        refine va_iast hx hb hK hP hD hS 6 0 rfl rfl (show vp_in v4 8 from c13) dX11_isSeated_18 (fun H locs hP hD hS => ?_)
        have hP : va_P D vwCl (ceM cI cZ th0 th1 th2 th3 th4 th5 th6 th7 th8 th9 ((M_weight u_th), (M_sits u_th), (M_stones u_th), (M_at u_th), (M_drag u_th), (M_sights u_th), (M_sight u_th), (M_signs u_th), (M_pad u_th), (M_foot u_th), (M_turned u_th), (M_bothWays u_th), (upd (M_now u_th) v4.toNatClampNeg (-6 : Int32)), (M_heap u_th), (M_reason u_th), (M_image u_th), (M_isKept u_th))) H := hP
        have hD : va_D A (ceM cI cZ th0 th1 th2 th3 th4 th5 th6 th7 th8 th9 ((M_weight u_th), (M_sits u_th), (M_stones u_th), (M_at u_th), (M_drag u_th), (M_sights u_th), (M_sight u_th), (M_signs u_th), (M_pad u_th), (M_foot u_th), (M_turned u_th), (M_bothWays u_th), (upd (M_now u_th) v4.toNatClampNeg (-6 : Int32)), (M_heap u_th), (M_reason u_th), (M_image u_th), (M_isKept u_th))) := hD
        refine lv_aload_n hx hb dX11_isSeated_19 rfl (lv_at hl 0 rfl) ?_
        refine va_get (D := D) (ci := 8) (v := .ref th7) (C := RX11) (T := TX11) (N := 17) hx hb hts hi_X11 hown hK hP 0 rfl rfl 13 (by decide) (hts (.fieldLink RX11 32 "FairWheelModel" "heap" "[I") (List.mem_of_getElem? (i := 2) rfl)) (fun _ h9 => h9) rfl dX11_isSeated_20 ?_
        refine lv_iload hx hb dX11_isSeated_23 (lv_at hl 4 rfl) ?_
        refine lv_iconst (v := 0) hx hb dX11_isSeated_25 (by decide) ?_
        by_cases c14 : v4 < 0 ∨ 8 ≤ v4.toNatClampNeg
        · have hf := (if_pos c14).symm.trans hf
          cases hf
        have hf := (if_neg c14).symm.trans hf
        refine va_iast hx hb hK hP hD hS 7 0 rfl rfl (show vp_in v4 8 from c14) dX11_isSeated_26 (fun H locs hP hD hS => ?_)
        have hP : va_P D vwCl (ceM cI cZ th0 th1 th2 th3 th4 th5 th6 th7 th8 th9 ((M_weight u_th), (M_sits u_th), (M_stones u_th), (M_at u_th), (M_drag u_th), (M_sights u_th), (M_sight u_th), (M_signs u_th), (M_pad u_th), (M_foot u_th), (M_turned u_th), (M_bothWays u_th), (upd (M_now u_th) v4.toNatClampNeg (-6 : Int32)), (upd (M_heap u_th) v4.toNatClampNeg (0 : Int32)), (M_reason u_th), (M_image u_th), (M_isKept u_th))) H := hP
        have hD : va_D A (ceM cI cZ th0 th1 th2 th3 th4 th5 th6 th7 th8 th9 ((M_weight u_th), (M_sits u_th), (M_stones u_th), (M_at u_th), (M_drag u_th), (M_sights u_th), (M_sight u_th), (M_signs u_th), (M_pad u_th), (M_foot u_th), (M_turned u_th), (M_bothWays u_th), (upd (M_now u_th) v4.toNatClampNeg (-6 : Int32)), (upd (M_heap u_th) v4.toNatClampNeg (0 : Int32)), (M_reason u_th), (M_image u_th), (M_isKept u_th))) := hD
        refine lv_iinc (v := (v4 + (1 : Int32))) (lv' := [(4, .int (v4 + (1 : Int32))), (0, .ref th0), (1, .int v1), (2, .int v2), (3, .int v3)]) hx hb dX11_isSeated_27 hl (k := 4) rfl rfl (by decide) rfl (fun ls hl => ?_)
        refine lv_goto (tgt := 3) hx hb dX11_isSeated_30 (by decide) ?_
        exact ih v1 v2 v3 (v4 + (1 : Int32)) ((M_weight u_th), (M_sits u_th), (M_stones u_th), (M_at u_th), (M_drag u_th), (M_sights u_th), (M_sight u_th), (M_signs u_th), (M_pad u_th), (M_foot u_th), (M_turned u_th), (M_bothWays u_th), (upd (M_now u_th) v4.toNatClampNeg (-6 : Int32)), (upd (M_heap u_th) v4.toNatClampNeg (0 : Int32)), (M_reason u_th), (M_image u_th), (M_isKept u_th)) _ _ ls (lv_sub hl [1, 2, 3, 4, 0] rfl) hP hD hS hf
  rw [f_X11_isSeated] at hf
  refine lv_iconst (v := 0) hx hb dX11_isSeated_0 (by decide) ?_
  refine lv_istore (lv' := [(4, .int (0 : Int32)), (0, .ref th0), (1, .int p1), (2, .int p2), (3, .int p3)]) hx hb dX11_isSeated_1 hl (by decide) rfl (fun ls hl => ?_)
  exact hL3 oF p1 p2 p3 (0 : Int32) u_th _ _ ls (lv_sub hl [1, 2, 3, 4, 0] rfl) hP hD hS hf
theorem hd_X11_balance : yX11_balance.cls ≠ "java/lang/invoke/MethodHandle" ∧ yX11_balance.cls ≠ "java/lang/invoke/VarHandle" ∧ (parseMethodDescriptor yX11_balance.desc).map (fun d => d.parameters.length) = some 2 := by decide +kernel
set_option maxHeartbeats 4000000 in
set_option maxRecDepth 100000 in
theorem c_X11_balance (l : Launch) (D : va_G) (cI cZ : ClassId) (th0 : Nat) (th1 : Nat) (th2 : Nat) (th3 : Nat) (th4 : Nat) (th5 : Nat) (th6 : Nat) (th7 : Nat) (th8 : Nat) (th9 : Nat) (sz : Nat) (u_th : sM) (p1 : Int32) (p2 : Int32) (z : Int32 × sM) (hf : f_X11_balance u_th p1 p2 = some z) : Met l yX11_balance wsX11_balance rmX11_balance (va_Pc [.ref th0, .int p1, .int p2] (wPr D cI cZ (ceM cI cZ th0 th1 th2 th3 th4 th5 th6 th7 th8 th9 u_th) sz)) (va_Qi (fun (r : Int32) (v : sM) => (r, v) = z) (fun (v : sM) t => wPo D cI cZ (va_A (ceM cI cZ th0 th1 th2 th3 th4 th5 th6 th7 th8 th9 u_th) sz) (ceM cI cZ th0 th1 th2 th3 th4 th5 th6 th7 th8 th9 v) t) (va_A (ceM cI cZ th0 th1 th2 th3 th4 th5 th6 th7 th8 th9 u_th) sz)) 0 0 (va_A (ceM cI cZ th0 th1 th2 th3 th4 th5 th6 th7 th8 th9 u_th) sz) := by
  refine k_enter (D := D) (cI := cI) (cZ := cZ) (wl := ceM cI cZ th0 th1 th2 th3 th4 th5 th6 th7 th8 th9 u_th) (sz := sz) (av := [.ref th0, .int p1, .int p2]) (cc := cX11_balance) (maxL := 9) (ret := (some .int)) (Qc := fun A => va_Qi (fun (r : Int32) (v : sM) => (r, v) = z) (fun (v : sM) t => wPo D cI cZ (A) (ceM cI cZ th0 th1 th2 th3 th4 th5 th6 th7 th8 th9 v) t) (A)) (by decide) rfl (Nat.le_of_ble_eq_true rfl) ?_
  intro p e s m below meth c ls A Q H locs eQ hx hb hr hml hts hown hlocks hK hP hD hS hA hE hl
  have hown : s.vm.findClass RX11 = some m.cls := hown
  have hl : lv_has ls 9 [(0, .ref th0), (1, .int p1), (2, .int p2)] := hl
  have hi_X11 : ∀ w ∈ wsX110, w ∈ wsX11_balance := fun w h => List.mem_cons_of_mem _ (List.mem_append_right _ h)
  have hL124 : ∀ (n : Nat), ∀ (v1 : Int32) (v2 : Int32) (v3 : Int32) (v4 : Int32) (v5 : Int32) (v6 : Int32) (v7 : Int32) (v8 : Int32) (u_th : sM) (H : Heap) (locs : List Loc) (ls : Array Slot), lv_has ls 9 [(0, .ref th0), (1, .int v1), (2, .int v2), (3, .int v3), (4, .int v4), (5, .int v5), (6, .int v6), (7, .int v7), (8, .int v8)] → va_P D vwCl (ceM cI cZ th0 th1 th2 th3 th4 th5 th6 th7 th8 th9 u_th) H → va_D A (ceM cI cZ th0 th1 th2 th3 th4 th5 th6 th7 th8 th9 u_th) → va_S A s.heap H locs → f_X11_balance_L124 n v1 v2 v3 v4 v5 v6 v7 v8 u_th = some z → W p l e (headSpec wsX11_balance rmX11_balance).room s m ([.ref th0, .int p1, .int p2] : List Value).toArray below meth c H locs 0 0 Q (F0 m 124 ls []) := by
    intro n
    induction n with
    | zero =>
      intro v1 v2 v3 v4 v5 v6 v7 v8 u_th H locs ls hl hP hD hS hf
      exact absurd (show (none : Option (Int32 × sM)) = some z from hf) (fun h => by cases h)
    | succ n ih =>
      intro v1 v2 v3 v4 v5 v6 v7 v8 u_th H locs ls hl hP hD hS hf
      rw [f_X11_balance_L124] at hf
      refine lv_iload hx hb dX11_balance_124 (lv_at hl 8 rfl) ?_
      refine lv_iload hx hb dX11_balance_126 (lv_at hl 5 rfl) ?_
      refine lv_icmp_ge (tgt := 176) hx hb dX11_balance_128 (by decide) (fun c7 => ?_) (fun c7 => ?_)
      · have hf := (if_pos c7).symm.trans hf
        refine lv_iload_n hx hb dX11_balance_176 rfl (lv_at hl 2 rfl) ?_
        refine lv_if_ge (tgt := 185) hx hb dX11_balance_177 (by decide) (fun c8 => ?_) (fun c8 => ?_)
        · have hf := (if_pos c8).symm.trans hf
          refine lv_iload hx hb dX11_balance_185 (lv_at hl 7 rfl) ?_
          refine lv_if_ge (tgt := 195) hx hb dX11_balance_187 (by decide) (fun c9 => ?_) (fun c9 => ?_)
          · have hf := (if_pos c9).symm.trans hf
            refine lv_iload hx hb dX11_balance_195 (lv_at hl 7 rfl) ?_
            refine lv_bipush (v := 8) hx hb dX11_balance_197 (by decide) ?_
            refine lv_iload_n hx hb dX11_balance_199 rfl (lv_at hl 3 rfl) ?_
            refine lv_iconst (v := 1) hx hb dX11_balance_200 (by decide) ?_
            refine lv_isub hx hb dX11_balance_201 ?_
            refine lv_iload hx hb dX11_balance_202 (lv_at hl 4 rfl) ?_
            refine lv_isub hx hb dX11_balance_204 ?_
            obtain ⟨z10, hz_z10, hf⟩ := o_bind hf
            refine k_calli (va_runS (As := [.int (8 : Int32), .int ((v3 - (1 : Int32)) - v4)]) (rest := [.int v7]) ⟨hx, hb, hml, hown, hts⟩ (c_X11_powerOf l D cI cZ  H.size (8 : Int32) ((v3 - (1 : Int32)) - v4) z10 hz_z10) (va_cwS 2 hts gX11_balance_X11_powerOf rfl rfl rfl hd_X11_powerOf ⟨Nat.le_of_ble_eq_true rfl, Nat.le_of_ble_eq_true rfl⟩) (k_preS hK hP hD hS hA hE [] (by decide) rfl) rfl rfl hl.1 rfl (lv_room (Nat.le_of_ble_eq_true rfl)) dX11_balance_205 ⟨Nat.zero_le _, Nat.zero_le _⟩) hP hD hS hA [] [none, none, none, none, none, none, none, none, none, none] 0 rfl (by decide) (by decide) rfl rfl (fun H locs hP hD hS => ?_)
            have hP : va_P D vwCl (ceM cI cZ th0 th1 th2 th3 th4 th5 th6 th7 th8 th9 u_th) H := hP
            have hD : va_D A (ceM cI cZ th0 th1 th2 th3 th4 th5 th6 th7 th8 th9 u_th) := hD
            by_cases c11 : z10.1 = 0
            · have hf := (if_pos c11).symm.trans hf
              cases hf
            have hf := (if_neg c11).symm.trans hf
            refine lv_idiv hx hb dX11_balance_208 c11 ?_
            refine lv_bipush (v := 8) hx hb dX11_balance_209 (by decide) ?_
            refine lv_irem hx hb dX11_balance_211 (by decide) ?_
            exact k_iret (v := ((v7 / z10.1) - (v7 / z10.1) / (8 : Int32) * (8 : Int32))) (u := u_th) hx hb hr hlocks hK hS eQ hf hP hD dX11_balance_212
          · have hf := (if_neg c9).symm.trans hf
            refine lv_bipush (v := -6) hx hb dX11_balance_190 (by decide) ?_
            refine lv_goto (tgt := 212) hx hb dX11_balance_192 (by decide) ?_
            exact k_iret (v := (-6 : Int32)) (u := u_th) hx hb hr hlocks hK hS eQ hf hP hD dX11_balance_212
        · have hf := (if_neg c8).symm.trans hf
          refine lv_iload hx hb dX11_balance_180 (lv_at hl 6 rfl) ?_
          refine lv_goto (tgt := 212) hx hb dX11_balance_182 (by decide) ?_
          exact k_iret (v := v6) (u := u_th) hx hb hr hlocks hK hS eQ hf hP hD dX11_balance_212
      · have hf := (if_neg c7).symm.trans hf
        refine lv_aload_n hx hb dX11_balance_131 rfl (lv_at hl 0 rfl) ?_
        refine lv_iload_n hx hb dX11_balance_132 rfl (lv_at hl 1 rfl) ?_
        refine lv_iload_n hx hb dX11_balance_133 rfl (lv_at hl 3 rfl) ?_
        refine lv_iload hx hb dX11_balance_134 (lv_at hl 8 rfl) ?_
        obtain ⟨z12, hz_z12, hf⟩ := o_bind hf
        refine k_calli (va_runV (As := [.int v1, .int v3, .int v8]) (rest := []) ⟨hx, hb, hml, hown, hts⟩ (c_X11_isSeated l D cI cZ th0 th1 th2 th3 th4 th5 th6 th7 th8 th9 H.size u_th v1 v3 v8 z12 hz_z12) (cwV 3 hts gX11_balance_X11_isSeated rfl rfl rfl ⟨rfl, hd_X11_isSeated⟩ ⟨Nat.le_of_ble_eq_true rfl, Nat.le_of_ble_eq_true rfl⟩) (k_preV hK hP hD hS hA hE [0, 1, 2, 3, 4, 5, 6, 7, 8, 9] (by decide) rfl (ci := 8) rfl rfl) rfl rfl hl.1 rfl (lv_room (Nat.le_of_ble_eq_true rfl)) dX11_balance_136 ⟨Nat.zero_le _, Nat.zero_le _⟩) hP hD hS hA [0, 1, 2, 3, 4, 5, 6, 7, 8, 9] [some 0, some 1, some 2, some 3, some 4, some 5, some 6, some 7, some 8, some 9] 10 rfl (by decide) (by decide) rfl rfl (fun H locs hP hD hS => ?_)
        have hP : va_P D vwCl (ceM cI cZ th0 th1 th2 th3 th4 th5 th6 th7 th8 th9 z12.2) H := hP
        have hD : va_D A (ceM cI cZ th0 th1 th2 th3 th4 th5 th6 th7 th8 th9 z12.2) := hD
        refine lv_if_eq (tgt := 170) hx hb dX11_balance_139 (by decide) (fun c13 => ?_) (fun c13 => ?_)
        · have hf := (if_pos c13).symm.trans hf
          refine lv_iinc (v := (v8 + (1 : Int32))) (lv' := [(8, .int (v8 + (1 : Int32))), (0, .ref th0), (1, .int v1), (2, .int v2), (3, .int v3), (4, .int v4), (5, .int v5), (6, .int v6), (7, .int v7)]) hx hb dX11_balance_170 hl (k := 8) rfl rfl (by decide) rfl (fun ls hl => ?_)
          refine lv_goto (tgt := 124) hx hb dX11_balance_173 (by decide) ?_
          exact ih v1 v2 v3 v4 v5 v6 v7 (v8 + (1 : Int32)) z12.2 _ _ ls (lv_sub hl [1, 2, 3, 4, 5, 6, 7, 8, 0] rfl) hP hD hS hf
        · have hf := (if_neg c13).symm.trans hf
          refine lv_aload_n hx hb dX11_balance_142 rfl (lv_at hl 0 rfl) ?_
          obtain ⟨z14, hz_z14, hf⟩ := o_bind hf
          refine k_calli (va_runV (As := []) (rest := []) ⟨hx, hb, hml, hown, hts⟩ (c_X11_greatestPull l D cI cZ th0 th1 th2 th3 th4 th5 th6 th7 th8 th9 H.size z12.2 z14 hz_z14) (cwV 0 hts gX11_balance_X11_greatestPull rfl rfl rfl ⟨rfl, hd_X11_greatestPull⟩ ⟨Nat.le_of_ble_eq_true rfl, Nat.le_of_ble_eq_true rfl⟩) (k_preV hK hP hD hS hA hE [0, 1, 2, 3, 4, 5, 6, 7, 8, 9] (by decide) rfl (ci := 8) rfl rfl) rfl rfl hl.1 rfl (lv_room (Nat.le_of_ble_eq_true rfl)) dX11_balance_143 ⟨Nat.zero_le _, Nat.zero_le _⟩) hP hD hS hA [0, 1, 2, 3, 4, 5, 6, 7, 8, 9] [some 0, some 1, some 2, some 3, some 4, some 5, some 6, some 7, some 8, some 9] 10 rfl (by decide) (by decide) rfl rfl (fun H locs hP hD hS => ?_)
          have hP : va_P D vwCl (ceM cI cZ th0 th1 th2 th3 th4 th5 th6 th7 th8 th9 z12.2) H := hP
          have hD : va_D A (ceM cI cZ th0 th1 th2 th3 th4 th5 th6 th7 th8 th9 z12.2) := hD
          refine lv_aload_n hx hb dX11_balance_146 rfl (lv_at hl 0 rfl) ?_
          refine va_get (D := D) (ci := 8) (v := .int (M_drag z12.2)) (C := RX11) (T := TX11) (N := 17) hx hb hts hi_X11 hown hK hP 0 rfl rfl 4 (by decide) (hts (.fieldLink RX11 19 "FairWheelModel" "drag" "I") (List.mem_of_getElem? (i := 1) rfl)) (fun _ h9 => h9) rfl dX11_balance_147 ?_
          refine lv_icmp_gt (tgt := 170) hx hb dX11_balance_150 (by decide) (fun c15 => ?_) (fun c15 => ?_)
          · have hf := (if_pos c15).symm.trans hf
            refine lv_iinc (v := (v8 + (1 : Int32))) (lv' := [(8, .int (v8 + (1 : Int32))), (0, .ref th0), (1, .int v1), (2, .int v2), (3, .int v3), (4, .int v4), (5, .int v5), (6, .int v6), (7, .int v7)]) hx hb dX11_balance_170 hl (k := 8) rfl rfl (by decide) rfl (fun ls hl => ?_)
            refine lv_goto (tgt := 124) hx hb dX11_balance_173 (by decide) ?_
            exact ih v1 v2 v3 v4 v5 v6 v7 (v8 + (1 : Int32)) z12.2 _ _ ls (lv_sub hl [1, 2, 3, 4, 5, 6, 7, 8, 0] rfl) hP hD hS hf
          · have hf := (if_neg c15).symm.trans hf
            refine lv_iload hx hb dX11_balance_153 (lv_at hl 7 rfl) ?_
            refine lv_if_ge (tgt := 163) hx hb dX11_balance_155 (by decide) (fun c16 => ?_) (fun c16 => ?_)
            · have hf := (if_pos c16).symm.trans hf
              refine lv_iload hx hb dX11_balance_163 (lv_at hl 7 rfl) ?_
              refine lv_istore (lv' := [(7, .int v7), (0, .ref th0), (1, .int v1), (2, .int v2), (3, .int v3), (4, .int v4), (5, .int v5), (6, .int v6), (8, .int v8)]) hx hb dX11_balance_165 hl (by decide) rfl (fun ls hl => ?_)
              refine lv_iinc (v := (v6 + (1 : Int32))) (lv' := [(6, .int (v6 + (1 : Int32))), (7, .int v7), (0, .ref th0), (1, .int v1), (2, .int v2), (3, .int v3), (4, .int v4), (5, .int v5), (8, .int v8)]) hx hb dX11_balance_167 hl (k := 7) rfl rfl (by decide) rfl (fun ls hl => ?_)
              refine lv_iinc (v := (v8 + (1 : Int32))) (lv' := [(8, .int (v8 + (1 : Int32))), (6, .int (v6 + (1 : Int32))), (7, .int v7), (0, .ref th0), (1, .int v1), (2, .int v2), (3, .int v3), (4, .int v4), (5, .int v5)]) hx hb dX11_balance_170 hl (k := 8) rfl rfl (by decide) rfl (fun ls hl => ?_)
              refine lv_goto (tgt := 124) hx hb dX11_balance_173 (by decide) ?_
              exact ih v1 v2 v3 v4 v5 (v6 + (1 : Int32)) v7 (v8 + (1 : Int32)) z12.2 _ _ ls (lv_sub hl [3, 4, 5, 6, 7, 8, 1, 2, 0] rfl) hP hD hS hf
            · have hf := (if_neg c16).symm.trans hf
              refine lv_iload hx hb dX11_balance_158 (lv_at hl 8 rfl) ?_
              refine lv_goto (tgt := 165) hx hb dX11_balance_160 (by decide) ?_
              refine lv_istore (lv' := [(7, .int v8), (0, .ref th0), (1, .int v1), (2, .int v2), (3, .int v3), (4, .int v4), (5, .int v5), (6, .int v6), (8, .int v8)]) hx hb dX11_balance_165 hl (by decide) rfl (fun ls hl => ?_)
              refine lv_iinc (v := (v6 + (1 : Int32))) (lv' := [(6, .int (v6 + (1 : Int32))), (7, .int v8), (0, .ref th0), (1, .int v1), (2, .int v2), (3, .int v3), (4, .int v4), (5, .int v5), (8, .int v8)]) hx hb dX11_balance_167 hl (k := 7) rfl rfl (by decide) rfl (fun ls hl => ?_)
              refine lv_iinc (v := (v8 + (1 : Int32))) (lv' := [(8, .int (v8 + (1 : Int32))), (6, .int (v6 + (1 : Int32))), (7, .int v8), (0, .ref th0), (1, .int v1), (2, .int v2), (3, .int v3), (4, .int v4), (5, .int v5)]) hx hb dX11_balance_170 hl (k := 8) rfl rfl (by decide) rfl (fun ls hl => ?_)
              refine lv_goto (tgt := 124) hx hb dX11_balance_173 (by decide) ?_
              exact ih v1 v2 v3 v4 v5 (v6 + (1 : Int32)) v8 (v8 + (1 : Int32)) z12.2 _ _ ls (lv_sub hl [3, 4, 5, 6, 7, 8, 1, 2, 0] rfl) hP hD hS hf
  have hL55 : ∀ (n : Nat), ∀ (v1 : Int32) (v2 : Int32) (v3 : Int32) (v4 : Int32) (v5 : Int32) (u_th : sM) (H : Heap) (locs : List Loc) (ls : Array Slot), lv_has ls 9 [(0, .ref th0), (1, .int v1), (2, .int v2), (3, .int v3), (4, .int v4), (5, .int v5)] → va_P D vwCl (ceM cI cZ th0 th1 th2 th3 th4 th5 th6 th7 th8 th9 u_th) H → va_D A (ceM cI cZ th0 th1 th2 th3 th4 th5 th6 th7 th8 th9 u_th) → va_S A s.heap H locs → f_X11_balance_L55 n v1 v2 v3 v4 v5 u_th = some z → W p l e (headSpec wsX11_balance rmX11_balance).room s m ([.ref th0, .int p1, .int p2] : List Value).toArray below meth c H locs 0 0 Q (F0 m 55 ls []) := by
    intro n
    induction n with
    | zero =>
      intro v1 v2 v3 v4 v5 u_th H locs ls hl hP hD hS hf
      exact absurd (show (none : Option (Int32 × sM)) = some z from hf) (fun h => by cases h)
    | succ n ih =>
      intro v1 v2 v3 v4 v5 u_th H locs ls hl hP hD hS hf
      rw [f_X11_balance_L55] at hf
      refine lv_iload hx hb dX11_balance_55 (lv_at hl 5 rfl) ?_
      refine lv_bipush (v := 8) hx hb dX11_balance_57 (by decide) ?_
      refine lv_icmp_ge (tgt := 98) hx hb dX11_balance_59 (by decide) (fun c4 => ?_) (fun c4 => ?_)
      · have hf := (if_pos c4).symm.trans hf
        refine lv_iload_n hx hb dX11_balance_98 rfl (lv_at hl 3 rfl) ?_
        refine lv_iconst (v := 5) hx hb dX11_balance_99 (by decide) ?_
        refine lv_icmp_le (tgt := 106) hx hb dX11_balance_100 (by decide) (fun c5 => ?_) (fun c5 => ?_)
        · have hf := (if_pos c5).symm.trans hf
          refine lv_bipush (v := 8) hx hb dX11_balance_106 (by decide) ?_
          refine lv_iload_n hx hb dX11_balance_108 rfl (lv_at hl 3 rfl) ?_
          obtain ⟨z6, hz_z6, hf⟩ := o_bind hf
          refine k_calli (va_runS (As := [.int (8 : Int32), .int v3]) (rest := []) ⟨hx, hb, hml, hown, hts⟩ (c_X11_powerOf l D cI cZ  H.size (8 : Int32) v3 z6 hz_z6) (va_cwS 2 hts gX11_balance_X11_powerOf rfl rfl rfl hd_X11_powerOf ⟨Nat.le_of_ble_eq_true rfl, Nat.le_of_ble_eq_true rfl⟩) (k_preS hK hP hD hS hA hE [] (by decide) rfl) rfl rfl hl.1 rfl (lv_room (Nat.le_of_ble_eq_true rfl)) dX11_balance_109 ⟨Nat.zero_le _, Nat.zero_le _⟩) hP hD hS hA [] [none, none, none, none, none, none, none, none, none, none] 0 rfl (by decide) (by decide) rfl rfl (fun H locs hP hD hS => ?_)
          have hP : va_P D vwCl (ceM cI cZ th0 th1 th2 th3 th4 th5 th6 th7 th8 th9 u_th) H := hP
          have hD : va_D A (ceM cI cZ th0 th1 th2 th3 th4 th5 th6 th7 th8 th9 u_th) := hD
          refine lv_istore (lv' := [(5, .int z6.1), (0, .ref th0), (1, .int v1), (2, .int v2), (3, .int v3), (4, .int v4)]) hx hb dX11_balance_112 hl (by decide) rfl (fun ls hl => ?_)
          refine lv_iconst (v := 0) hx hb dX11_balance_114 (by decide) ?_
          refine lv_istore (lv' := [(6, .int (0 : Int32)), (5, .int z6.1), (0, .ref th0), (1, .int v1), (2, .int v2), (3, .int v3), (4, .int v4)]) hx hb dX11_balance_115 hl (by decide) rfl (fun ls hl => ?_)
          refine lv_bipush (v := -6) hx hb dX11_balance_117 (by decide) ?_
          refine lv_istore (lv' := [(7, .int (-6 : Int32)), (6, .int (0 : Int32)), (5, .int z6.1), (0, .ref th0), (1, .int v1), (2, .int v2), (3, .int v3), (4, .int v4)]) hx hb dX11_balance_119 hl (by decide) rfl (fun ls hl => ?_)
          refine lv_iconst (v := 0) hx hb dX11_balance_121 (by decide) ?_
          refine lv_istore (lv' := [(8, .int (0 : Int32)), (7, .int (-6 : Int32)), (6, .int (0 : Int32)), (5, .int z6.1), (0, .ref th0), (1, .int v1), (2, .int v2), (3, .int v3), (4, .int v4)]) hx hb dX11_balance_122 hl (by decide) rfl (fun ls hl => ?_)
          exact hL124 oF v1 v2 v3 v4 z6.1 (0 : Int32) (-6 : Int32) (0 : Int32) u_th _ _ ls (lv_sub hl [4, 5, 6, 7, 8, 3, 2, 1, 0] rfl) hP hD hS hf
        · have hf := (if_neg c5).symm.trans hf
          refine lv_bipush (v := -4) hx hb dX11_balance_103 (by decide) ?_
          exact k_iret (v := (-4 : Int32)) (u := u_th) hx hb hr hlocks hK hS eQ hf hP hD dX11_balance_105
      · have hf := (if_neg c4).symm.trans hf
        refine lv_iload_n hx hb dX11_balance_62 rfl (lv_at hl 3 rfl) ?_
        refine lv_iload_n hx hb dX11_balance_63 rfl (lv_at hl 1 rfl) ?_
        refine lv_iload hx hb dX11_balance_64 (lv_at hl 5 rfl) ?_
        refine lv_ishr hx hb dX11_balance_66 ?_
        refine lv_iconst (v := 1) hx hb dX11_balance_67 (by decide) ?_
        refine lv_iand hx hb dX11_balance_68 ?_
        refine lv_iadd hx hb dX11_balance_69 ?_
        refine lv_istore_n (lv' := [(3, .int (v3 + ((v1 >>> (v5 &&& 31)) &&& (1 : Int32)))), (0, .ref th0), (1, .int v1), (2, .int v2), (4, .int v4), (5, .int v5)]) hx hb dX11_balance_70 rfl hl (by decide) rfl (fun ls hl => ?_)
        refine lv_iload hx hb dX11_balance_71 (lv_at hl 4 rfl) ?_
        refine lv_iload hx hb dX11_balance_73 (lv_at hl 5 rfl) ?_
        refine lv_iload_n hx hb dX11_balance_75 rfl (lv_at hl 3 rfl) ?_
        refine lv_icmp_ge (tgt := 88) hx hb dX11_balance_76 (by decide) (fun c17 => ?_) (fun c17 => ?_)
        · have hf := (if_pos c17).symm.trans hf
          refine lv_iconst (v := 0) hx hb dX11_balance_88 (by decide) ?_
          refine lv_iadd hx hb dX11_balance_89 ?_
          refine lv_istore (lv' := [(4, .int (v4 + (0 : Int32))), (3, .int (v3 + ((v1 >>> (v5 &&& 31)) &&& (1 : Int32)))), (0, .ref th0), (1, .int v1), (2, .int v2), (5, .int v5)]) hx hb dX11_balance_90 hl (by decide) rfl (fun ls hl => ?_)
          refine lv_iinc (v := (v5 + (1 : Int32))) (lv' := [(5, .int (v5 + (1 : Int32))), (4, .int (v4 + (0 : Int32))), (3, .int (v3 + ((v1 >>> (v5 &&& 31)) &&& (1 : Int32)))), (0, .ref th0), (1, .int v1), (2, .int v2)]) hx hb dX11_balance_92 hl (k := 5) rfl rfl (by decide) rfl (fun ls hl => ?_)
          refine lv_goto (tgt := 55) hx hb dX11_balance_95 (by decide) ?_
          exact ih v1 v2 (v3 + ((v1 >>> (v5 &&& 31)) &&& (1 : Int32))) (v4 + (0 : Int32)) (v5 + (1 : Int32)) u_th _ _ ls (lv_sub hl [3, 4, 5, 2, 1, 0] rfl) hP hD hS hf
        · have hf := (if_neg c17).symm.trans hf
          refine lv_iload_n hx hb dX11_balance_79 rfl (lv_at hl 2 rfl) ?_
          refine lv_iload hx hb dX11_balance_80 (lv_at hl 5 rfl) ?_
          refine lv_ishr hx hb dX11_balance_82 ?_
          refine lv_iconst (v := 1) hx hb dX11_balance_83 (by decide) ?_
          refine lv_iand hx hb dX11_balance_84 ?_
          refine lv_goto (tgt := 89) hx hb dX11_balance_85 (by decide) ?_
          refine lv_iadd hx hb dX11_balance_89 ?_
          refine lv_istore (lv' := [(4, .int (v4 + ((v1 >>> (v5 &&& 31)) &&& (1 : Int32)))), (3, .int (v3 + ((v1 >>> (v5 &&& 31)) &&& (1 : Int32)))), (0, .ref th0), (1, .int v1), (2, .int v2), (5, .int v5)]) hx hb dX11_balance_90 hl (by decide) rfl (fun ls hl => ?_)
          refine lv_iinc (v := (v5 + (1 : Int32))) (lv' := [(5, .int (v5 + (1 : Int32))), (4, .int (v4 + ((v1 >>> (v5 &&& 31)) &&& (1 : Int32)))), (3, .int (v3 + ((v1 >>> (v5 &&& 31)) &&& (1 : Int32)))), (0, .ref th0), (1, .int v1), (2, .int v2)]) hx hb dX11_balance_92 hl (k := 5) rfl rfl (by decide) rfl (fun ls hl => ?_)
          refine lv_goto (tgt := 55) hx hb dX11_balance_95 (by decide) ?_
          exact ih v1 v2 (v3 + ((v1 >>> (v5 &&& 31)) &&& (1 : Int32))) (v4 + ((v1 >>> (v5 &&& 31)) &&& (1 : Int32))) (v5 + (1 : Int32)) u_th _ _ ls (lv_sub hl [3, 4, 5, 2, 1, 0] rfl) hP hD hS hf
  have hJ33 : ∀ (v1 : Int32) (v2 : Int32) (u_th : sM) (H : Heap) (locs : List Loc) (ls : Array Slot), lv_has ls 9 [(0, .ref th0), (1, .int v1), (2, .int v2)] → va_P D vwCl (ceM cI cZ th0 th1 th2 th3 th4 th5 th6 th7 th8 th9 u_th) H → va_D A (ceM cI cZ th0 th1 th2 th3 th4 th5 th6 th7 th8 th9 u_th) → va_S A s.heap H locs → f_X11_balance_J33 v1 v2 u_th = some z → W p l e (headSpec wsX11_balance rmX11_balance).room s m ([.ref th0, .int p1, .int p2] : List Value).toArray below meth c H locs 0 0 Q (F0 m 33 ls []) := by
    intro  v1 v2 u_th H locs ls hl hP hD hS hf
    rw [f_X11_balance_J33] at hf
    refine lv_iload_n hx hb dX11_balance_33 rfl (lv_at hl 1 rfl) ?_
    refine lv_iconst (v := 0) hx hb dX11_balance_34 (by decide) ?_
    refine lv_sipush (v := 255) hx hb dX11_balance_35 (by decide) ?_
    obtain ⟨z2, hz_z2, hf⟩ := o_bind hf
    refine k_calli (va_runS (As := [.int v1, .int (0 : Int32), .int (255 : Int32)]) (rest := []) ⟨hx, hb, hml, hown, hts⟩ (c_X11_in l D cI cZ  H.size v1 (0 : Int32) (255 : Int32) z2 hz_z2) (va_cwS 3 hts gX11_balance_X11_in rfl rfl rfl hd_X11_in ⟨Nat.le_of_ble_eq_true rfl, Nat.le_of_ble_eq_true rfl⟩) (k_preS hK hP hD hS hA hE [] (by decide) rfl) rfl rfl hl.1 rfl (lv_room (Nat.le_of_ble_eq_true rfl)) dX11_balance_38 ⟨Nat.zero_le _, Nat.zero_le _⟩) hP hD hS hA [] [none, none, none, none, none, none, none, none, none, none] 0 rfl (by decide) (by decide) rfl rfl (fun H locs hP hD hS => ?_)
    have hP : va_P D vwCl (ceM cI cZ th0 th1 th2 th3 th4 th5 th6 th7 th8 th9 u_th) H := hP
    have hD : va_D A (ceM cI cZ th0 th1 th2 th3 th4 th5 th6 th7 th8 th9 u_th) := hD
    refine lv_if_ne (tgt := 47) hx hb dX11_balance_41 (by decide) (fun c3 => ?_) (fun c3 => ?_)
    · have hf := (if_neg c3).symm.trans hf
      refine lv_iconst (v := 0) hx hb dX11_balance_47 (by decide) ?_
      refine lv_istore_n (lv' := [(3, .int (0 : Int32)), (0, .ref th0), (1, .int v1), (2, .int v2)]) hx hb dX11_balance_48 rfl hl (by decide) rfl (fun ls hl => ?_)
      refine lv_iconst (v := 0) hx hb dX11_balance_49 (by decide) ?_
      refine lv_istore (lv' := [(4, .int (0 : Int32)), (3, .int (0 : Int32)), (0, .ref th0), (1, .int v1), (2, .int v2)]) hx hb dX11_balance_50 hl (by decide) rfl (fun ls hl => ?_)
      refine lv_iconst (v := 0) hx hb dX11_balance_52 (by decide) ?_
      refine lv_istore (lv' := [(5, .int (0 : Int32)), (4, .int (0 : Int32)), (3, .int (0 : Int32)), (0, .ref th0), (1, .int v1), (2, .int v2)]) hx hb dX11_balance_53 hl (by decide) rfl (fun ls hl => ?_)
      exact hL55 oF v1 v2 (0 : Int32) (0 : Int32) (0 : Int32) u_th _ _ ls (lv_sub hl [3, 4, 5, 2, 1, 0] rfl) hP hD hS hf
    · have hf := (if_pos c3).symm.trans hf
      refine lv_bipush (v := -2) hx hb dX11_balance_44 (by decide) ?_
      exact k_iret (v := (-2 : Int32)) (u := u_th) hx hb hr hlocks hK hS eQ hf hP hD dX11_balance_46
  rw [f_X11_balance] at hf
  refine lv_iload_n hx hb dX11_balance_0 rfl (lv_at hl 2 rfl) ?_
  refine lv_iconst (v := -1) hx hb dX11_balance_1 (by decide) ?_
  refine lv_icmp_eq (tgt := 33) hx hb dX11_balance_2 (by decide) (fun c1 => ?_) (fun c1 => ?_)
  · have hf := (if_pos c1).symm.trans hf
    exact hJ33 p1 p2 u_th _ _ ls (lv_sub hl [0, 1, 2] rfl) hP hD hS hf
  · have hf := (if_neg c1).symm.trans hf
    refine lv_iload_n hx hb dX11_balance_5 rfl (lv_at hl 2 rfl) ?_
    obtain ⟨z18, hz_z18, hf⟩ := o_bind hf
    refine k_calli (va_runS (As := [.int p2]) (rest := []) ⟨hx, hb, hml, hown, hts⟩ (c_X11_is8 l D cI cZ  H.size p2 z18 hz_z18) (va_cwS 1 hts gX11_balance_X11_is8 rfl rfl rfl hd_X11_is8 ⟨Nat.le_of_ble_eq_true rfl, Nat.le_of_ble_eq_true rfl⟩) (k_preS hK hP hD hS hA hE [] (by decide) rfl) rfl rfl hl.1 rfl (lv_room (Nat.le_of_ble_eq_true rfl)) dX11_balance_6 ⟨Nat.zero_le _, Nat.zero_le _⟩) hP hD hS hA [] [none, none, none, none, none, none, none, none, none, none] 0 rfl (by decide) (by decide) rfl rfl (fun H locs hP hD hS => ?_)
    have hP : va_P D vwCl (ceM cI cZ th0 th1 th2 th3 th4 th5 th6 th7 th8 th9 u_th) H := hP
    have hD : va_D A (ceM cI cZ th0 th1 th2 th3 th4 th5 th6 th7 th8 th9 u_th) := hD
    refine lv_if_eq (tgt := 31) hx hb dX11_balance_9 (by decide) (fun c19 => ?_) (fun c19 => ?_)
    · have hf := (if_pos c19).symm.trans hf
      refine lv_iconst (v := -1) hx hb dX11_balance_31 (by decide) ?_
      exact k_iret (v := (-1 : Int32)) (u := u_th) hx hb hr hlocks hK hS eQ hf hP hD dX11_balance_32
    · have hf := (if_neg c19).symm.trans hf
      refine lv_iload_n hx hb dX11_balance_12 rfl (lv_at hl 1 rfl) ?_
      refine lv_iconst (v := 0) hx hb dX11_balance_13 (by decide) ?_
      refine lv_sipush (v := 255) hx hb dX11_balance_14 (by decide) ?_
      obtain ⟨z20, hz_z20, hf⟩ := o_bind hf
      refine k_calli (va_runS (As := [.int p1, .int (0 : Int32), .int (255 : Int32)]) (rest := []) ⟨hx, hb, hml, hown, hts⟩ (c_X11_in l D cI cZ  H.size p1 (0 : Int32) (255 : Int32) z20 hz_z20) (va_cwS 3 hts gX11_balance_X11_in rfl rfl rfl hd_X11_in ⟨Nat.le_of_ble_eq_true rfl, Nat.le_of_ble_eq_true rfl⟩) (k_preS hK hP hD hS hA hE [] (by decide) rfl) rfl rfl hl.1 rfl (lv_room (Nat.le_of_ble_eq_true rfl)) dX11_balance_17 ⟨Nat.zero_le _, Nat.zero_le _⟩) hP hD hS hA [] [none, none, none, none, none, none, none, none, none, none] 0 rfl (by decide) (by decide) rfl rfl (fun H locs hP hD hS => ?_)
      have hP : va_P D vwCl (ceM cI cZ th0 th1 th2 th3 th4 th5 th6 th7 th8 th9 u_th) H := hP
      have hD : va_D A (ceM cI cZ th0 th1 th2 th3 th4 th5 th6 th7 th8 th9 u_th) := hD
      refine lv_if_eq (tgt := 33) hx hb dX11_balance_20 (by decide) (fun c21 => ?_) (fun c21 => ?_)
      · have hf := (if_pos c21).symm.trans hf
        exact hJ33 p1 p2 u_th _ _ ls (lv_sub hl [0, 1, 2] rfl) hP hD hS hf
      · have hf := (if_neg c21).symm.trans hf
        refine lv_iload_n hx hb dX11_balance_23 rfl (lv_at hl 1 rfl) ?_
        refine lv_iload_n hx hb dX11_balance_24 rfl (lv_at hl 2 rfl) ?_
        obtain ⟨z22, hz_z22, hf⟩ := o_bind hf
        refine k_calli (va_runS (As := [.int p1, .int p2]) (rest := []) ⟨hx, hb, hml, hown, hts⟩ (c_X11_has l D cI cZ  H.size p1 p2 z22 hz_z22) (va_cwS 2 hts gX11_balance_X11_has rfl rfl rfl hd_X11_has ⟨Nat.le_of_ble_eq_true rfl, Nat.le_of_ble_eq_true rfl⟩) (k_preS hK hP hD hS hA hE [] (by decide) rfl) rfl rfl hl.1 rfl (lv_room (Nat.le_of_ble_eq_true rfl)) dX11_balance_25 ⟨Nat.zero_le _, Nat.zero_le _⟩) hP hD hS hA [] [none, none, none, none, none, none, none, none, none, none] 0 rfl (by decide) (by decide) rfl rfl (fun H locs hP hD hS => ?_)
        have hP : va_P D vwCl (ceM cI cZ th0 th1 th2 th3 th4 th5 th6 th7 th8 th9 u_th) H := hP
        have hD : va_D A (ceM cI cZ th0 th1 th2 th3 th4 th5 th6 th7 th8 th9 u_th) := hD
        refine lv_if_ne (tgt := 33) hx hb dX11_balance_28 (by decide) (fun c23 => ?_) (fun c23 => ?_)
        · have hf := (if_neg c23).symm.trans hf
          exact hJ33 p1 p2 u_th _ _ ls (lv_sub hl [0, 1, 2] rfl) hP hD hS hf
        · have hf := (if_pos c23).symm.trans hf
          refine lv_iconst (v := -1) hx hb dX11_balance_31 (by decide) ?_
          exact k_iret (v := (-1 : Int32)) (u := u_th) hx hb hr hlocks hK hS eQ hf hP hD dX11_balance_32
theorem hd_X11_could : yX11_could.cls ≠ "java/lang/invoke/MethodHandle" ∧ yX11_could.cls ≠ "java/lang/invoke/VarHandle" ∧ (parseMethodDescriptor yX11_could.desc).map (fun d => d.parameters.length) = some 3 := by decide +kernel
set_option maxHeartbeats 4000000 in
set_option maxRecDepth 100000 in
theorem c_X11_could (l : Launch) (D : va_G) (cI cZ : ClassId) (th0 : Nat) (th1 : Nat) (th2 : Nat) (th3 : Nat) (th4 : Nat) (th5 : Nat) (th6 : Nat) (th7 : Nat) (th8 : Nat) (th9 : Nat) (sz : Nat) (u_th : sM) (p1 : Int32) (p2 : Int32) (p3 : Int32) (z : Int32 × sM) (hf : f_X11_could u_th p1 p2 p3 = some z) : Met l yX11_could wsX11_could rmX11_could (va_Pc [.ref th0, .int p1, .int p2, .int p3] (wPr D cI cZ (ceM cI cZ th0 th1 th2 th3 th4 th5 th6 th7 th8 th9 u_th) sz)) (va_Qi (fun (r : Int32) (v : sM) => (r, v) = z) (fun (v : sM) t => wPo D cI cZ (va_A (ceM cI cZ th0 th1 th2 th3 th4 th5 th6 th7 th8 th9 u_th) sz) (ceM cI cZ th0 th1 th2 th3 th4 th5 th6 th7 th8 th9 v) t) (va_A (ceM cI cZ th0 th1 th2 th3 th4 th5 th6 th7 th8 th9 u_th) sz)) 0 0 (va_A (ceM cI cZ th0 th1 th2 th3 th4 th5 th6 th7 th8 th9 u_th) sz) := by
  refine k_enter (D := D) (cI := cI) (cZ := cZ) (wl := ceM cI cZ th0 th1 th2 th3 th4 th5 th6 th7 th8 th9 u_th) (sz := sz) (av := [.ref th0, .int p1, .int p2, .int p3]) (cc := cX11_could) (maxL := 9) (ret := (some .int)) (Qc := fun A => va_Qi (fun (r : Int32) (v : sM) => (r, v) = z) (fun (v : sM) t => wPo D cI cZ (A) (ceM cI cZ th0 th1 th2 th3 th4 th5 th6 th7 th8 th9 v) t) (A)) (by decide) rfl (Nat.le_of_ble_eq_true rfl) ?_
  intro p e s m below meth c ls A Q H locs eQ hx hb hr hml hts hown hlocks hK hP hD hS hA hE hl
  have hown : s.vm.findClass RX11 = some m.cls := hown
  have hl : lv_has ls 9 [(0, .ref th0), (1, .int p1), (2, .int p2), (3, .int p3)] := hl
  have hi_X11 : ∀ w ∈ wsX110, w ∈ wsX11_could := fun w h => List.mem_cons_of_mem _ (List.mem_append_right _ h)
  have hL70 : ∀ (n : Nat), ∀ (v1 : Int32) (v2 : Int32) (v3 : Int32) (v4 : Int32) (v5 : Int32) (v6 : Int32) (v7 : Int32) (v8 : Int32) (u_th : sM) (H : Heap) (locs : List Loc) (ls : Array Slot), lv_has ls 9 [(0, .ref th0), (1, .int v1), (2, .int v2), (3, .int v3), (4, .int v4), (5, .int v5), (6, .int v6), (7, .int v7), (8, .int v8)] → va_P D vwCl (ceM cI cZ th0 th1 th2 th3 th4 th5 th6 th7 th8 th9 u_th) H → va_D A (ceM cI cZ th0 th1 th2 th3 th4 th5 th6 th7 th8 th9 u_th) → va_S A s.heap H locs → f_X11_could_L70 n v1 v2 v3 v4 v5 v6 v7 v8 u_th = some z → W p l e (headSpec wsX11_could rmX11_could).room s m ([.ref th0, .int p1, .int p2, .int p3] : List Value).toArray below meth c H locs 0 0 Q (F0 m 70 ls []) := by
    intro n
    induction n with
    | zero =>
      intro v1 v2 v3 v4 v5 v6 v7 v8 u_th H locs ls hl hP hD hS hf
      exact absurd (show (none : Option (Int32 × sM)) = some z from hf) (fun h => by cases h)
    | succ n ih =>
      intro v1 v2 v3 v4 v5 v6 v7 v8 u_th H locs ls hl hP hD hS hf
      rw [f_X11_could_L70] at hf
      refine lv_iload hx hb dX11_could_70 (lv_at hl 8 rfl) ?_
      refine lv_bipush (v := 100) hx hb dX11_could_72 (by decide) ?_
      refine lv_icmp_ge (tgt := 130) hx hb dX11_could_74 (by decide) (fun c12 => ?_) (fun c12 => ?_)
      · have hf := (if_pos c12).symm.trans hf
        refine lv_aload_n hx hb dX11_could_130 rfl (lv_at hl 0 rfl) ?_
        refine va_get (D := D) (ci := 8) (v := .ref th1) (C := RX11) (T := TX11) (N := 17) hx hb hts hi_X11 hown hK hP 0 rfl rfl 0 (by decide) (hts (.fieldLink RX11 7 "FairWheelModel" "weight" "[I") (List.mem_of_getElem? (i := 1) rfl)) (fun _ h9 => h9) rfl dX11_could_131 ?_
        refine lv_iload_n hx hb dX11_could_134 rfl (lv_at hl 1 rfl) ?_
        refine lv_iload hx hb dX11_could_135 (lv_at hl 4 rfl) ?_
        by_cases c13 : v1 < 0 ∨ 8 ≤ v1.toNatClampNeg
        · have hf := (if_pos c13).symm.trans hf
          cases hf
        have hf := (if_neg c13).symm.trans hf
        refine va_iast hx hb hK hP hD hS 1 0 rfl rfl (show vp_in v1 8 from c13) dX11_could_137 (fun H locs hP hD hS => ?_)
        have hP : va_P D vwCl (ceM cI cZ th0 th1 th2 th3 th4 th5 th6 th7 th8 th9 ((upd (M_weight u_th) v1.toNatClampNeg v4), (M_sits u_th), (M_stones u_th), (M_at u_th), (M_drag u_th), (M_sights u_th), (M_sight u_th), (M_signs u_th), (M_pad u_th), (M_foot u_th), (M_turned u_th), (M_bothWays u_th), (M_now u_th), (M_heap u_th), (M_reason u_th), (M_image u_th), (M_isKept u_th))) H := hP
        have hD : va_D A (ceM cI cZ th0 th1 th2 th3 th4 th5 th6 th7 th8 th9 ((upd (M_weight u_th) v1.toNatClampNeg v4), (M_sits u_th), (M_stones u_th), (M_at u_th), (M_drag u_th), (M_sights u_th), (M_sight u_th), (M_signs u_th), (M_pad u_th), (M_foot u_th), (M_turned u_th), (M_bothWays u_th), (M_now u_th), (M_heap u_th), (M_reason u_th), (M_image u_th), (M_isKept u_th))) := hD
        refine lv_iload_n hx hb dX11_could_138 rfl (lv_at hl 3 rfl) ?_
        refine lv_if_ne (tgt := 147) hx hb dX11_could_139 (by decide) (fun c14 => ?_) (fun c14 => ?_)
        · have hf := (if_neg c14).symm.trans hf
          refine lv_iload_n hx hb dX11_could_147 rfl (lv_at hl 3 rfl) ?_
          refine lv_iconst (v := 1) hx hb dX11_could_148 (by decide) ?_
          refine lv_icmp_ne (tgt := 157) hx hb dX11_could_149 (by decide) (fun c15 => ?_) (fun c15 => ?_)
          · have hf := (if_neg c15).symm.trans hf
            refine lv_iload hx hb dX11_could_157 (lv_at hl 7 rfl) ?_
            exact k_iret (v := v7) (u := ((upd (M_weight u_th) v1.toNatClampNeg v4), (M_sits u_th), (M_stones u_th), (M_at u_th), (M_drag u_th), (M_sights u_th), (M_sight u_th), (M_signs u_th), (M_pad u_th), (M_foot u_th), (M_turned u_th), (M_bothWays u_th), (M_now u_th), (M_heap u_th), (M_reason u_th), (M_image u_th), (M_isKept u_th))) hx hb hr hlocks hK hS eQ hf hP hD dX11_could_159
          · have hf := (if_pos c15).symm.trans hf
            refine lv_iload hx hb dX11_could_152 (lv_at hl 6 rfl) ?_
            refine lv_goto (tgt := 159) hx hb dX11_could_154 (by decide) ?_
            exact k_iret (v := v6) (u := ((upd (M_weight u_th) v1.toNatClampNeg v4), (M_sits u_th), (M_stones u_th), (M_at u_th), (M_drag u_th), (M_sights u_th), (M_sight u_th), (M_signs u_th), (M_pad u_th), (M_foot u_th), (M_turned u_th), (M_bothWays u_th), (M_now u_th), (M_heap u_th), (M_reason u_th), (M_image u_th), (M_isKept u_th))) hx hb hr hlocks hK hS eQ hf hP hD dX11_could_159
        · have hf := (if_pos c14).symm.trans hf
          refine lv_iload hx hb dX11_could_142 (lv_at hl 5 rfl) ?_
          refine lv_goto (tgt := 159) hx hb dX11_could_144 (by decide) ?_
          exact k_iret (v := v5) (u := ((upd (M_weight u_th) v1.toNatClampNeg v4), (M_sits u_th), (M_stones u_th), (M_at u_th), (M_drag u_th), (M_sights u_th), (M_sight u_th), (M_signs u_th), (M_pad u_th), (M_foot u_th), (M_turned u_th), (M_bothWays u_th), (M_now u_th), (M_heap u_th), (M_reason u_th), (M_image u_th), (M_isKept u_th))) hx hb hr hlocks hK hS eQ hf hP hD dX11_could_159
      · have hf := (if_neg c12).symm.trans hf
        refine lv_aload_n hx hb dX11_could_77 rfl (lv_at hl 0 rfl) ?_
        refine va_get (D := D) (ci := 8) (v := .ref th1) (C := RX11) (T := TX11) (N := 17) hx hb hts hi_X11 hown hK hP 0 rfl rfl 0 (by decide) (hts (.fieldLink RX11 7 "FairWheelModel" "weight" "[I") (List.mem_of_getElem? (i := 1) rfl)) (fun _ h9 => h9) rfl dX11_could_78 ?_
        refine lv_iload_n hx hb dX11_could_81 rfl (lv_at hl 1 rfl) ?_
        refine lv_iload hx hb dX11_could_82 (lv_at hl 8 rfl) ?_
        by_cases c16 : v1 < 0 ∨ 8 ≤ v1.toNatClampNeg
        · have hf := (if_pos c16).symm.trans hf
          cases hf
        have hf := (if_neg c16).symm.trans hf
        refine va_iast hx hb hK hP hD hS 1 0 rfl rfl (show vp_in v1 8 from c16) dX11_could_84 (fun H locs hP hD hS => ?_)
        have hP : va_P D vwCl (ceM cI cZ th0 th1 th2 th3 th4 th5 th6 th7 th8 th9 ((upd (M_weight u_th) v1.toNatClampNeg v8), (M_sits u_th), (M_stones u_th), (M_at u_th), (M_drag u_th), (M_sights u_th), (M_sight u_th), (M_signs u_th), (M_pad u_th), (M_foot u_th), (M_turned u_th), (M_bothWays u_th), (M_now u_th), (M_heap u_th), (M_reason u_th), (M_image u_th), (M_isKept u_th))) H := hP
        have hD : va_D A (ceM cI cZ th0 th1 th2 th3 th4 th5 th6 th7 th8 th9 ((upd (M_weight u_th) v1.toNatClampNeg v8), (M_sits u_th), (M_stones u_th), (M_at u_th), (M_drag u_th), (M_sights u_th), (M_sight u_th), (M_signs u_th), (M_pad u_th), (M_foot u_th), (M_turned u_th), (M_bothWays u_th), (M_now u_th), (M_heap u_th), (M_reason u_th), (M_image u_th), (M_isKept u_th))) := hD
        refine lv_aload_n hx hb dX11_could_85 rfl (lv_at hl 0 rfl) ?_
        refine lv_iconst (v := 0) hx hb dX11_could_86 (by decide) ?_
        refine lv_bipush (v := -6) hx hb dX11_could_87 (by decide) ?_
        obtain ⟨z17, hz_z17, hf⟩ := o_bind hf
        refine k_calli (va_runV (As := [.int (0 : Int32), .int (-6 : Int32)]) (rest := []) ⟨hx, hb, hml, hown, hts⟩ (c_X11_goText l D cI cZ th0 th1 th2 th3 th4 th5 th6 th7 th8 th9 H.size ((upd (M_weight u_th) v1.toNatClampNeg v8), (M_sits u_th), (M_stones u_th), (M_at u_th), (M_drag u_th), (M_sights u_th), (M_sight u_th), (M_signs u_th), (M_pad u_th), (M_foot u_th), (M_turned u_th), (M_bothWays u_th), (M_now u_th), (M_heap u_th), (M_reason u_th), (M_image u_th), (M_isKept u_th)) (0 : Int32) (-6 : Int32) z17 hz_z17) (cwV 2 hts gX11_could_X11_goText rfl rfl rfl ⟨rfl, hd_X11_goText⟩ ⟨Nat.le_of_ble_eq_true rfl, Nat.le_of_ble_eq_true rfl⟩) (k_preV hK hP hD hS hA hE [0, 1, 2, 3, 4, 5, 6, 7, 8, 9] (by decide) rfl (ci := 8) rfl rfl) rfl rfl hl.1 rfl (lv_room (Nat.le_of_ble_eq_true rfl)) dX11_could_89 ⟨Nat.zero_le _, Nat.zero_le _⟩) hP hD hS hA [0, 1, 2, 3, 4, 5, 6, 7, 8, 9] [some 0, some 1, some 2, some 3, some 4, some 5, some 6, some 7, some 8, some 9] 10 rfl (by decide) (by decide) rfl rfl (fun H locs hP hD hS => ?_)
        have hP : va_P D vwCl (ceM cI cZ th0 th1 th2 th3 th4 th5 th6 th7 th8 th9 z17.2) H := hP
        have hD : va_D A (ceM cI cZ th0 th1 th2 th3 th4 th5 th6 th7 th8 th9 z17.2) := hD
        refine lv_if_ge (tgt := 124) hx hb dX11_could_92 (by decide) (fun c18 => ?_) (fun c18 => ?_)
        · have hf := (if_pos c18).symm.trans hf
          refine lv_iinc (v := (v8 + (1 : Int32))) (lv' := [(8, .int (v8 + (1 : Int32))), (0, .ref th0), (1, .int v1), (2, .int v2), (3, .int v3), (4, .int v4), (5, .int v5), (6, .int v6), (7, .int v7)]) hx hb dX11_could_124 hl (k := 8) rfl rfl (by decide) rfl (fun ls hl => ?_)
          refine lv_goto (tgt := 70) hx hb dX11_could_127 (by decide) ?_
          exact ih v1 v2 v3 v4 v5 v6 v7 (v8 + (1 : Int32)) z17.2 _ _ ls (lv_sub hl [1, 2, 3, 4, 5, 6, 7, 8, 0] rfl) hP hD hS hf
        · have hf := (if_neg c18).symm.trans hf
          refine lv_aload_n hx hb dX11_could_95 rfl (lv_at hl 0 rfl) ?_
          refine va_get (D := D) (ci := 8) (v := .int (M_foot z17.2)) (C := RX11) (T := TX11) (N := 17) hx hb hts hi_X11 hown hK hP 0 rfl rfl 9 (by decide) (hts (.fieldLink RX11 60 "FairWheelModel" "foot" "I") (List.mem_of_getElem? (i := 2) rfl)) (fun _ h9 => h9) rfl dX11_could_96 ?_
          refine lv_iload_n hx hb dX11_could_99 rfl (lv_at hl 2 rfl) ?_
          refine lv_icmp_ne (tgt := 124) hx hb dX11_could_100 (by decide) (fun c19 => ?_) (fun c19 => ?_)
          · have hf := (if_neg c19).symm.trans hf
            refine lv_iinc (v := (v8 + (1 : Int32))) (lv' := [(8, .int (v8 + (1 : Int32))), (0, .ref th0), (1, .int v1), (2, .int v2), (3, .int v3), (4, .int v4), (5, .int v5), (6, .int v6), (7, .int v7)]) hx hb dX11_could_124 hl (k := 8) rfl rfl (by decide) rfl (fun ls hl => ?_)
            refine lv_goto (tgt := 70) hx hb dX11_could_127 (by decide) ?_
            exact ih v1 v2 v3 v4 v5 v6 v7 (v8 + (1 : Int32)) z17.2 _ _ ls (lv_sub hl [1, 2, 3, 4, 5, 6, 7, 8, 0] rfl) hP hD hS hf
          · have hf := (if_pos c19).symm.trans hf
            refine lv_iload hx hb dX11_could_103 (lv_at hl 5 rfl) ?_
            refine lv_if_ne (tgt := 113) hx hb dX11_could_105 (by decide) (fun c20 => ?_) (fun c20 => ?_)
            · have hf := (if_neg c20).symm.trans hf
              refine lv_iload hx hb dX11_could_113 (lv_at hl 6 rfl) ?_
              refine lv_istore (lv' := [(6, .int v6), (0, .ref th0), (1, .int v1), (2, .int v2), (3, .int v3), (4, .int v4), (5, .int v5), (7, .int v7), (8, .int v8)]) hx hb dX11_could_115 hl (by decide) rfl (fun ls hl => ?_)
              refine lv_iload hx hb dX11_could_117 (lv_at hl 8 rfl) ?_
              refine lv_istore (lv' := [(7, .int v8), (6, .int v6), (0, .ref th0), (1, .int v1), (2, .int v2), (3, .int v3), (4, .int v4), (5, .int v5), (8, .int v8)]) hx hb dX11_could_119 hl (by decide) rfl (fun ls hl => ?_)
              refine lv_iinc (v := (v5 + (1 : Int32))) (lv' := [(5, .int (v5 + (1 : Int32))), (7, .int v8), (6, .int v6), (0, .ref th0), (1, .int v1), (2, .int v2), (3, .int v3), (4, .int v4), (8, .int v8)]) hx hb dX11_could_121 hl (k := 7) rfl rfl (by decide) rfl (fun ls hl => ?_)
              refine lv_iinc (v := (v8 + (1 : Int32))) (lv' := [(8, .int (v8 + (1 : Int32))), (5, .int (v5 + (1 : Int32))), (7, .int v8), (6, .int v6), (0, .ref th0), (1, .int v1), (2, .int v2), (3, .int v3), (4, .int v4)]) hx hb dX11_could_124 hl (k := 8) rfl rfl (by decide) rfl (fun ls hl => ?_)
              refine lv_goto (tgt := 70) hx hb dX11_could_127 (by decide) ?_
              exact ih v1 v2 v3 v4 (v5 + (1 : Int32)) v6 v8 (v8 + (1 : Int32)) z17.2 _ _ ls (lv_sub hl [4, 5, 6, 7, 8, 1, 3, 2, 0] rfl) hP hD hS hf
            · have hf := (if_pos c20).symm.trans hf
              refine lv_iload hx hb dX11_could_108 (lv_at hl 8 rfl) ?_
              refine lv_goto (tgt := 115) hx hb dX11_could_110 (by decide) ?_
              refine lv_istore (lv' := [(6, .int v8), (0, .ref th0), (1, .int v1), (2, .int v2), (3, .int v3), (4, .int v4), (5, .int v5), (7, .int v7), (8, .int v8)]) hx hb dX11_could_115 hl (by decide) rfl (fun ls hl => ?_)
              refine lv_iload hx hb dX11_could_117 (lv_at hl 8 rfl) ?_
              refine lv_istore (lv' := [(7, .int v8), (6, .int v8), (0, .ref th0), (1, .int v1), (2, .int v2), (3, .int v3), (4, .int v4), (5, .int v5), (8, .int v8)]) hx hb dX11_could_119 hl (by decide) rfl (fun ls hl => ?_)
              refine lv_iinc (v := (v5 + (1 : Int32))) (lv' := [(5, .int (v5 + (1 : Int32))), (7, .int v8), (6, .int v8), (0, .ref th0), (1, .int v1), (2, .int v2), (3, .int v3), (4, .int v4), (8, .int v8)]) hx hb dX11_could_121 hl (k := 7) rfl rfl (by decide) rfl (fun ls hl => ?_)
              refine lv_iinc (v := (v8 + (1 : Int32))) (lv' := [(8, .int (v8 + (1 : Int32))), (5, .int (v5 + (1 : Int32))), (7, .int v8), (6, .int v8), (0, .ref th0), (1, .int v1), (2, .int v2), (3, .int v3), (4, .int v4)]) hx hb dX11_could_124 hl (k := 8) rfl rfl (by decide) rfl (fun ls hl => ?_)
              refine lv_goto (tgt := 70) hx hb dX11_could_127 (by decide) ?_
              exact ih v1 v2 v3 v4 (v5 + (1 : Int32)) v8 v8 (v8 + (1 : Int32)) z17.2 _ _ ls (lv_sub hl [4, 5, 6, 7, 8, 1, 3, 2, 0] rfl) hP hD hS hf
  rw [f_X11_could] at hf
  refine lv_iload_n hx hb dX11_could_0 rfl (lv_at hl 1 rfl) ?_
  obtain ⟨z1, hz_z1, hf⟩ := o_bind hf
  refine k_calli (va_runS (As := [.int p1]) (rest := []) ⟨hx, hb, hml, hown, hts⟩ (c_X11_is8 l D cI cZ  H.size p1 z1 hz_z1) (va_cwS 1 hts gX11_could_X11_is8 rfl rfl rfl hd_X11_is8 ⟨Nat.le_of_ble_eq_true rfl, Nat.le_of_ble_eq_true rfl⟩) (k_preS hK hP hD hS hA hE [] (by decide) rfl) rfl rfl hl.1 rfl (lv_room (Nat.le_of_ble_eq_true rfl)) dX11_could_1 ⟨Nat.zero_le _, Nat.zero_le _⟩) hP hD hS hA [] [none, none, none, none, none, none, none, none, none, none] 0 rfl (by decide) (by decide) rfl rfl (fun H locs hP hD hS => ?_)
  have hP : va_P D vwCl (ceM cI cZ th0 th1 th2 th3 th4 th5 th6 th7 th8 th9 u_th) H := hP
  have hD : va_D A (ceM cI cZ th0 th1 th2 th3 th4 th5 th6 th7 th8 th9 u_th) := hD
  refine lv_if_eq (tgt := 14) hx hb dX11_could_4 (by decide) (fun c2 => ?_) (fun c2 => ?_)
  · have hf := (if_pos c2).symm.trans hf
    refine lv_iconst (v := -1) hx hb dX11_could_14 (by decide) ?_
    exact k_iret (v := (-1 : Int32)) (u := u_th) hx hb hr hlocks hK hS eQ hf hP hD dX11_could_15
  · have hf := (if_neg c2).symm.trans hf
    refine lv_iload_n hx hb dX11_could_7 rfl (lv_at hl 2 rfl) ?_
    obtain ⟨z3, hz_z3, hf⟩ := o_bind hf
    refine k_calli (va_runS (As := [.int p2]) (rest := []) ⟨hx, hb, hml, hown, hts⟩ (c_X11_is8 l D cI cZ  H.size p2 z3 hz_z3) (va_cwS 1 hts gX11_could_X11_is8 rfl rfl rfl hd_X11_is8 ⟨Nat.le_of_ble_eq_true rfl, Nat.le_of_ble_eq_true rfl⟩) (k_preS hK hP hD hS hA hE [] (by decide) rfl) rfl rfl hl.1 rfl (lv_room (Nat.le_of_ble_eq_true rfl)) dX11_could_8 ⟨Nat.zero_le _, Nat.zero_le _⟩) hP hD hS hA [] [none, none, none, none, none, none, none, none, none, none] 0 rfl (by decide) (by decide) rfl rfl (fun H locs hP hD hS => ?_)
    have hP : va_P D vwCl (ceM cI cZ th0 th1 th2 th3 th4 th5 th6 th7 th8 th9 u_th) H := hP
    have hD : va_D A (ceM cI cZ th0 th1 th2 th3 th4 th5 th6 th7 th8 th9 u_th) := hD
    refine lv_if_ne (tgt := 16) hx hb dX11_could_11 (by decide) (fun c4 => ?_) (fun c4 => ?_)
    · have hf := (if_neg c4).symm.trans hf
      refine lv_iload_n hx hb dX11_could_16 rfl (lv_at hl 3 rfl) ?_
      refine lv_iconst (v := 0) hx hb dX11_could_17 (by decide) ?_
      refine lv_iconst (v := 2) hx hb dX11_could_18 (by decide) ?_
      obtain ⟨z5, hz_z5, hf⟩ := o_bind hf
      refine k_calli (va_runS (As := [.int p3, .int (0 : Int32), .int (2 : Int32)]) (rest := []) ⟨hx, hb, hml, hown, hts⟩ (c_X11_in l D cI cZ  H.size p3 (0 : Int32) (2 : Int32) z5 hz_z5) (va_cwS 3 hts gX11_could_X11_in rfl rfl rfl hd_X11_in ⟨Nat.le_of_ble_eq_true rfl, Nat.le_of_ble_eq_true rfl⟩) (k_preS hK hP hD hS hA hE [] (by decide) rfl) rfl rfl hl.1 rfl (lv_room (Nat.le_of_ble_eq_true rfl)) dX11_could_19 ⟨Nat.zero_le _, Nat.zero_le _⟩) hP hD hS hA [] [none, none, none, none, none, none, none, none, none, none] 0 rfl (by decide) (by decide) rfl rfl (fun H locs hP hD hS => ?_)
      have hP : va_P D vwCl (ceM cI cZ th0 th1 th2 th3 th4 th5 th6 th7 th8 th9 u_th) H := hP
      have hD : va_D A (ceM cI cZ th0 th1 th2 th3 th4 th5 th6 th7 th8 th9 u_th) := hD
      refine lv_if_ne (tgt := 28) hx hb dX11_could_22 (by decide) (fun c6 => ?_) (fun c6 => ?_)
      · have hf := (if_neg c6).symm.trans hf
        refine lv_aload_n hx hb dX11_could_28 rfl (lv_at hl 0 rfl) ?_
        obtain ⟨z7, hz_z7, hf⟩ := o_bind hf
        refine k_calli (va_runV (As := []) (rest := []) ⟨hx, hb, hml, hown, hts⟩ (c_X11_faultOf l D cI cZ th0 th1 th2 th3 th4 th5 th6 th7 th8 th9 H.size u_th z7 hz_z7) (cwV 0 hts gX11_could_X11_faultOf rfl rfl rfl ⟨rfl, hd_X11_faultOf⟩ ⟨Nat.le_of_ble_eq_true rfl, Nat.le_of_ble_eq_true rfl⟩) (k_preV hK hP hD hS hA hE [0, 1, 2, 3, 4, 5, 6, 7, 8, 9] (by decide) rfl (ci := 8) rfl rfl) rfl rfl hl.1 rfl (lv_room (Nat.le_of_ble_eq_true rfl)) dX11_could_29 ⟨Nat.zero_le _, Nat.zero_le _⟩) hP hD hS hA [0, 1, 2, 3, 4, 5, 6, 7, 8, 9] [some 0, some 1, some 2, some 3, some 4, some 5, some 6, some 7, some 8, some 9] 10 rfl (by decide) (by decide) rfl rfl (fun H locs hP hD hS => ?_)
        have hP : va_P D vwCl (ceM cI cZ th0 th1 th2 th3 th4 th5 th6 th7 th8 th9 u_th) H := hP
        have hD : va_D A (ceM cI cZ th0 th1 th2 th3 th4 th5 th6 th7 th8 th9 u_th) := hD
        refine lv_if_lt (tgt := 38) hx hb dX11_could_32 (by decide) (fun c8 => ?_) (fun c8 => ?_)
        · have hf := (if_pos c8).symm.trans hf
          refine lv_aload_n hx hb dX11_could_38 rfl (lv_at hl 0 rfl) ?_
          obtain ⟨z9, hz_z9, hf⟩ := o_bind hf
          refine k_calli (va_runV (As := []) (rest := []) ⟨hx, hb, hml, hown, hts⟩ (c_X11_opens l D cI cZ th0 th1 th2 th3 th4 th5 th6 th7 th8 th9 H.size u_th z9 hz_z9) (cwV 0 hts gX11_could_X11_opens rfl rfl rfl ⟨rfl, hd_X11_opens⟩ ⟨Nat.le_of_ble_eq_true rfl, Nat.le_of_ble_eq_true rfl⟩) (k_preV hK hP hD hS hA hE [0, 1, 2, 3, 4, 5, 6, 7, 8, 9] (by decide) rfl (ci := 8) rfl rfl) rfl rfl hl.1 rfl (lv_room (Nat.le_of_ble_eq_true rfl)) dX11_could_39 ⟨Nat.zero_le _, Nat.zero_le _⟩) hP hD hS hA [0, 1, 2, 3, 4, 5, 6, 7, 8, 9] [some 0, some 1, some 2, some 3, some 4, some 5, some 6, some 7, some 8, some 9] 10 rfl (by decide) (by decide) rfl rfl (fun H locs hP hD hS => ?_)
          have hP : va_P D vwCl (ceM cI cZ th0 th1 th2 th3 th4 th5 th6 th7 th8 th9 u_th) H := hP
          have hD : va_D A (ceM cI cZ th0 th1 th2 th3 th4 th5 th6 th7 th8 th9 u_th) := hD
          refine lv_if_le (tgt := 48) hx hb dX11_could_42 (by decide) (fun c10 => ?_) (fun c10 => ?_)
          · have hf := (if_pos c10).symm.trans hf
            refine lv_aload_n hx hb dX11_could_48 rfl (lv_at hl 0 rfl) ?_
            refine va_get (D := D) (ci := 8) (v := .ref th1) (C := RX11) (T := TX11) (N := 17) hx hb hts hi_X11 hown hK hP 0 rfl rfl 0 (by decide) (hts (.fieldLink RX11 7 "FairWheelModel" "weight" "[I") (List.mem_of_getElem? (i := 1) rfl)) (fun _ h9 => h9) rfl dX11_could_49 ?_
            refine lv_iload_n hx hb dX11_could_52 rfl (lv_at hl 1 rfl) ?_
            by_cases c11 : p1 < 0 ∨ 8 ≤ p1.toNatClampNeg
            · have hf := (if_pos c11).symm.trans hf
              cases hf
            have hf := (if_neg c11).symm.trans hf
            refine va_iald hx hb hK hP 1 0 rfl rfl (show vp_in p1 8 from c11) dX11_could_53 ?_
            refine lv_istore (lv' := [(4, .int ((M_weight u_th) p1.toNatClampNeg)), (0, .ref th0), (1, .int p1), (2, .int p2), (3, .int p3)]) hx hb dX11_could_54 hl (by decide) rfl (fun ls hl => ?_)
            refine lv_iconst (v := 0) hx hb dX11_could_56 (by decide) ?_
            refine lv_istore (lv' := [(5, .int (0 : Int32)), (4, .int ((M_weight u_th) p1.toNatClampNeg)), (0, .ref th0), (1, .int p1), (2, .int p2), (3, .int p3)]) hx hb dX11_could_57 hl (by decide) rfl (fun ls hl => ?_)
            refine lv_bipush (v := -6) hx hb dX11_could_59 (by decide) ?_
            refine lv_istore (lv' := [(6, .int (-6 : Int32)), (5, .int (0 : Int32)), (4, .int ((M_weight u_th) p1.toNatClampNeg)), (0, .ref th0), (1, .int p1), (2, .int p2), (3, .int p3)]) hx hb dX11_could_61 hl (by decide) rfl (fun ls hl => ?_)
            refine lv_bipush (v := -6) hx hb dX11_could_63 (by decide) ?_
            refine lv_istore (lv' := [(7, .int (-6 : Int32)), (6, .int (-6 : Int32)), (5, .int (0 : Int32)), (4, .int ((M_weight u_th) p1.toNatClampNeg)), (0, .ref th0), (1, .int p1), (2, .int p2), (3, .int p3)]) hx hb dX11_could_65 hl (by decide) rfl (fun ls hl => ?_)
            refine lv_iconst (v := 1) hx hb dX11_could_67 (by decide) ?_
            refine lv_istore (lv' := [(8, .int (1 : Int32)), (7, .int (-6 : Int32)), (6, .int (-6 : Int32)), (5, .int (0 : Int32)), (4, .int ((M_weight u_th) p1.toNatClampNeg)), (0, .ref th0), (1, .int p1), (2, .int p2), (3, .int p3)]) hx hb dX11_could_68 hl (by decide) rfl (fun ls hl => ?_)
            exact hL70 oF p1 p2 p3 ((M_weight u_th) p1.toNatClampNeg) (0 : Int32) (-6 : Int32) (-6 : Int32) (1 : Int32) u_th _ _ ls (lv_sub hl [5, 6, 7, 8, 4, 3, 2, 1, 0] rfl) hP hD hS hf
          · have hf := (if_neg c10).symm.trans hf
            refine lv_bipush (v := -3) hx hb dX11_could_45 (by decide) ?_
            exact k_iret (v := (-3 : Int32)) (u := u_th) hx hb hr hlocks hK hS eQ hf hP hD dX11_could_47
        · have hf := (if_neg c8).symm.trans hf
          refine lv_bipush (v := -5) hx hb dX11_could_35 (by decide) ?_
          exact k_iret (v := (-5 : Int32)) (u := u_th) hx hb hr hlocks hK hS eQ hf hP hD dX11_could_37
      · have hf := (if_pos c6).symm.trans hf
        refine lv_bipush (v := -2) hx hb dX11_could_25 (by decide) ?_
        exact k_iret (v := (-2 : Int32)) (u := u_th) hx hb hr hlocks hK hS eQ hf hP hD dX11_could_27
    · have hf := (if_pos c4).symm.trans hf
      refine lv_iconst (v := -1) hx hb dX11_could_14 (by decide) ?_
      exact k_iret (v := (-1 : Int32)) (u := u_th) hx hb hr hlocks hK hS eQ hf hP hD dX11_could_15
theorem hd_X11_seen : yX11_seen.cls ≠ "java/lang/invoke/MethodHandle" ∧ yX11_seen.cls ≠ "java/lang/invoke/VarHandle" ∧ (parseMethodDescriptor yX11_seen.desc).map (fun d => d.parameters.length) = some 2 := by decide +kernel
set_option maxHeartbeats 4000000 in
set_option maxRecDepth 100000 in
theorem c_X11_seen (l : Launch) (D : va_G) (cI cZ : ClassId) (th0 : Nat) (th1 : Nat) (th2 : Nat) (th3 : Nat) (th4 : Nat) (th5 : Nat) (th6 : Nat) (th7 : Nat) (th8 : Nat) (th9 : Nat) (sz : Nat) (u_th : sM) (p1 : Int32) (p2 : Int32) (z : Int32 × sM) (hf : f_X11_seen u_th p1 p2 = some z) : Met l yX11_seen wsX11_seen rmX11_seen (va_Pc [.ref th0, .int p1, .int p2] (wPr D cI cZ (ceM cI cZ th0 th1 th2 th3 th4 th5 th6 th7 th8 th9 u_th) sz)) (va_Qi (fun (r : Int32) (v : sM) => (r, v) = z) (fun (v : sM) t => wPo D cI cZ (va_A (ceM cI cZ th0 th1 th2 th3 th4 th5 th6 th7 th8 th9 u_th) sz) (ceM cI cZ th0 th1 th2 th3 th4 th5 th6 th7 th8 th9 v) t) (va_A (ceM cI cZ th0 th1 th2 th3 th4 th5 th6 th7 th8 th9 u_th) sz)) 0 0 (va_A (ceM cI cZ th0 th1 th2 th3 th4 th5 th6 th7 th8 th9 u_th) sz) := by
  refine k_enter (D := D) (cI := cI) (cZ := cZ) (wl := ceM cI cZ th0 th1 th2 th3 th4 th5 th6 th7 th8 th9 u_th) (sz := sz) (av := [.ref th0, .int p1, .int p2]) (cc := cX11_seen) (maxL := 3) (ret := (some .int)) (Qc := fun A => va_Qi (fun (r : Int32) (v : sM) => (r, v) = z) (fun (v : sM) t => wPo D cI cZ (A) (ceM cI cZ th0 th1 th2 th3 th4 th5 th6 th7 th8 th9 v) t) (A)) (by decide) rfl (Nat.le_of_ble_eq_true rfl) ?_
  intro p e s m below meth c ls A Q H locs eQ hx hb hr hml hts hown hlocks hK hP hD hS hA hE hl
  have hown : s.vm.findClass RX11 = some m.cls := hown
  have hl : lv_has ls 3 [(0, .ref th0), (1, .int p1), (2, .int p2)] := hl
  have hi_X11 : ∀ w ∈ wsX110, w ∈ wsX11_seen := fun w h => List.mem_cons_of_mem _ (List.mem_append_right _ h)
  rw [f_X11_seen] at hf
  refine lv_iload_n hx hb dX11_seen_0 rfl (lv_at hl 1 rfl) ?_
  obtain ⟨z1, hz_z1, hf⟩ := o_bind hf
  refine k_calli (va_runS (As := [.int p1]) (rest := []) ⟨hx, hb, hml, hown, hts⟩ (c_X11_is8 l D cI cZ  H.size p1 z1 hz_z1) (va_cwS 1 hts gX11_seen_X11_is8 rfl rfl rfl hd_X11_is8 ⟨Nat.le_of_ble_eq_true rfl, Nat.le_of_ble_eq_true rfl⟩) (k_preS hK hP hD hS hA hE [] (by decide) rfl) rfl rfl hl.1 rfl (lv_room (Nat.le_of_ble_eq_true rfl)) dX11_seen_1 ⟨Nat.zero_le _, Nat.zero_le _⟩) hP hD hS hA [] [none, none, none, none, none, none, none, none, none, none] 0 rfl (by decide) (by decide) rfl rfl (fun H locs hP hD hS => ?_)
  have hP : va_P D vwCl (ceM cI cZ th0 th1 th2 th3 th4 th5 th6 th7 th8 th9 u_th) H := hP
  have hD : va_D A (ceM cI cZ th0 th1 th2 th3 th4 th5 th6 th7 th8 th9 u_th) := hD
  refine lv_if_eq (tgt := 14) hx hb dX11_seen_4 (by decide) (fun c2 => ?_) (fun c2 => ?_)
  · have hf := (if_pos c2).symm.trans hf
    refine lv_iconst (v := -1) hx hb dX11_seen_14 (by decide) ?_
    exact k_iret (v := (-1 : Int32)) (u := u_th) hx hb hr hlocks hK hS eQ hf hP hD dX11_seen_15
  · have hf := (if_neg c2).symm.trans hf
    refine lv_iload_n hx hb dX11_seen_7 rfl (lv_at hl 2 rfl) ?_
    obtain ⟨z3, hz_z3, hf⟩ := o_bind hf
    refine k_calli (va_runS (As := [.int p2]) (rest := []) ⟨hx, hb, hml, hown, hts⟩ (c_X11_is8 l D cI cZ  H.size p2 z3 hz_z3) (va_cwS 1 hts gX11_seen_X11_is8 rfl rfl rfl hd_X11_is8 ⟨Nat.le_of_ble_eq_true rfl, Nat.le_of_ble_eq_true rfl⟩) (k_preS hK hP hD hS hA hE [] (by decide) rfl) rfl rfl hl.1 rfl (lv_room (Nat.le_of_ble_eq_true rfl)) dX11_seen_8 ⟨Nat.zero_le _, Nat.zero_le _⟩) hP hD hS hA [] [none, none, none, none, none, none, none, none, none, none] 0 rfl (by decide) (by decide) rfl rfl (fun H locs hP hD hS => ?_)
    have hP : va_P D vwCl (ceM cI cZ th0 th1 th2 th3 th4 th5 th6 th7 th8 th9 u_th) H := hP
    have hD : va_D A (ceM cI cZ th0 th1 th2 th3 th4 th5 th6 th7 th8 th9 u_th) := hD
    refine lv_if_ne (tgt := 16) hx hb dX11_seen_11 (by decide) (fun c4 => ?_) (fun c4 => ?_)
    · have hf := (if_neg c4).symm.trans hf
      refine lv_aload_n hx hb dX11_seen_16 rfl (lv_at hl 0 rfl) ?_
      refine va_get (D := D) (ci := 8) (v := .int (M_sights u_th)) (C := RX11) (T := TX11) (N := 17) hx hb hts hi_X11 hown hK hP 0 rfl rfl 5 (by decide) (hts (.fieldLink RX11 115 "FairWheelModel" "sights" "I") (List.mem_of_getElem? (i := 1) rfl)) (fun _ h9 => h9) rfl dX11_seen_17 ?_
      refine lv_bipush (v := 6) hx hb dX11_seen_20 (by decide) ?_
      refine lv_icmp_ne (tgt := 28) hx hb dX11_seen_22 (by decide) (fun c5 => ?_) (fun c5 => ?_)
      · have hf := (if_neg c5).symm.trans hf
        refine lv_aload_n hx hb dX11_seen_28 rfl (lv_at hl 0 rfl) ?_
        refine va_get (D := D) (ci := 8) (v := .ref th4) (C := RX11) (T := TX11) (N := 17) hx hb hts hi_X11 hown hK hP 0 rfl rfl 6 (by decide) (hts (.fieldLink RX11 23 "FairWheelModel" "sight" "[I") (List.mem_of_getElem? (i := 2) rfl)) (fun _ h9 => h9) rfl dX11_seen_29 ?_
        refine lv_iconst (v := 2) hx hb dX11_seen_32 (by decide) ?_
        refine lv_aload_n hx hb dX11_seen_33 rfl (lv_at hl 0 rfl) ?_
        refine va_get (D := D) (ci := 8) (v := .int (M_sights u_th)) (C := RX11) (T := TX11) (N := 17) hx hb hts hi_X11 hown hK hP 0 rfl rfl 5 (by decide) (hts (.fieldLink RX11 115 "FairWheelModel" "sights" "I") (List.mem_of_getElem? (i := 1) rfl)) (fun _ h9 => h9) rfl dX11_seen_34 ?_
        refine lv_imul hx hb dX11_seen_37 ?_
        refine lv_iload_n hx hb dX11_seen_38 rfl (lv_at hl 1 rfl) ?_
        by_cases c6 : ((2 : Int32) * (M_sights u_th)) < 0 ∨ 12 ≤ ((2 : Int32) * (M_sights u_th)).toNatClampNeg
        · have hf := (if_pos c6).symm.trans hf
          cases hf
        have hf := (if_neg c6).symm.trans hf
        refine va_iast hx hb hK hP hD hS 4 0 rfl rfl (show vp_in ((2 : Int32) * (M_sights u_th)) 12 from c6) dX11_seen_39 (fun H locs hP hD hS => ?_)
        have hP : va_P D vwCl (ceM cI cZ th0 th1 th2 th3 th4 th5 th6 th7 th8 th9 ((M_weight u_th), (M_sits u_th), (M_stones u_th), (M_at u_th), (M_drag u_th), (M_sights u_th), (upd (M_sight u_th) ((2 : Int32) * (M_sights u_th)).toNatClampNeg p1), (M_signs u_th), (M_pad u_th), (M_foot u_th), (M_turned u_th), (M_bothWays u_th), (M_now u_th), (M_heap u_th), (M_reason u_th), (M_image u_th), (M_isKept u_th))) H := hP
        have hD : va_D A (ceM cI cZ th0 th1 th2 th3 th4 th5 th6 th7 th8 th9 ((M_weight u_th), (M_sits u_th), (M_stones u_th), (M_at u_th), (M_drag u_th), (M_sights u_th), (upd (M_sight u_th) ((2 : Int32) * (M_sights u_th)).toNatClampNeg p1), (M_signs u_th), (M_pad u_th), (M_foot u_th), (M_turned u_th), (M_bothWays u_th), (M_now u_th), (M_heap u_th), (M_reason u_th), (M_image u_th), (M_isKept u_th))) := hD
        refine lv_aload_n hx hb dX11_seen_40 rfl (lv_at hl 0 rfl) ?_
        refine va_get (D := D) (ci := 8) (v := .ref th4) (C := RX11) (T := TX11) (N := 17) hx hb hts hi_X11 hown hK hP 0 rfl rfl 6 (by decide) (hts (.fieldLink RX11 23 "FairWheelModel" "sight" "[I") (List.mem_of_getElem? (i := 2) rfl)) (fun _ h9 => h9) rfl dX11_seen_41 ?_
        refine lv_iconst (v := 2) hx hb dX11_seen_44 (by decide) ?_
        refine lv_aload_n hx hb dX11_seen_45 rfl (lv_at hl 0 rfl) ?_
        refine va_get (D := D) (ci := 8) (v := .int (M_sights u_th)) (C := RX11) (T := TX11) (N := 17) hx hb hts hi_X11 hown hK hP 0 rfl rfl 5 (by decide) (hts (.fieldLink RX11 115 "FairWheelModel" "sights" "I") (List.mem_of_getElem? (i := 1) rfl)) (fun _ h9 => h9) rfl dX11_seen_46 ?_
        refine lv_imul hx hb dX11_seen_49 ?_
        refine lv_iconst (v := 1) hx hb dX11_seen_50 (by decide) ?_
        refine lv_iadd hx hb dX11_seen_51 ?_
        refine lv_iload_n hx hb dX11_seen_52 rfl (lv_at hl 2 rfl) ?_
        by_cases c7 : (((2 : Int32) * (M_sights u_th)) + (1 : Int32)) < 0 ∨ 12 ≤ (((2 : Int32) * (M_sights u_th)) + (1 : Int32)).toNatClampNeg
        · have hf := (if_pos c7).symm.trans hf
          cases hf
        have hf := (if_neg c7).symm.trans hf
        refine va_iast hx hb hK hP hD hS 4 0 rfl rfl (show vp_in (((2 : Int32) * (M_sights u_th)) + (1 : Int32)) 12 from c7) dX11_seen_53 (fun H locs hP hD hS => ?_)
        have hP : va_P D vwCl (ceM cI cZ th0 th1 th2 th3 th4 th5 th6 th7 th8 th9 ((M_weight u_th), (M_sits u_th), (M_stones u_th), (M_at u_th), (M_drag u_th), (M_sights u_th), (upd (upd (M_sight u_th) ((2 : Int32) * (M_sights u_th)).toNatClampNeg p1) (((2 : Int32) * (M_sights u_th)) + (1 : Int32)).toNatClampNeg p2), (M_signs u_th), (M_pad u_th), (M_foot u_th), (M_turned u_th), (M_bothWays u_th), (M_now u_th), (M_heap u_th), (M_reason u_th), (M_image u_th), (M_isKept u_th))) H := hP
        have hD : va_D A (ceM cI cZ th0 th1 th2 th3 th4 th5 th6 th7 th8 th9 ((M_weight u_th), (M_sits u_th), (M_stones u_th), (M_at u_th), (M_drag u_th), (M_sights u_th), (upd (upd (M_sight u_th) ((2 : Int32) * (M_sights u_th)).toNatClampNeg p1) (((2 : Int32) * (M_sights u_th)) + (1 : Int32)).toNatClampNeg p2), (M_signs u_th), (M_pad u_th), (M_foot u_th), (M_turned u_th), (M_bothWays u_th), (M_now u_th), (M_heap u_th), (M_reason u_th), (M_image u_th), (M_isKept u_th))) := hD
        refine lv_aload_n hx hb dX11_seen_54 rfl (lv_at hl 0 rfl) ?_
        refine lv_dup hx hb dX11_seen_55 rfl ?_
        refine va_get (D := D) (ci := 8) (v := .int (M_sights u_th)) (C := RX11) (T := TX11) (N := 17) hx hb hts hi_X11 hown hK hP 0 rfl rfl 5 (by decide) (hts (.fieldLink RX11 115 "FairWheelModel" "sights" "I") (List.mem_of_getElem? (i := 1) rfl)) (fun _ h9 => h9) rfl dX11_seen_56 ?_
        refine lv_iconst (v := 1) hx hb dX11_seen_59 (by decide) ?_
        refine lv_iadd hx hb dX11_seen_60 ?_
        refine va_put (D := D) (ci := 8) (v := .int ((M_sights u_th) + (1 : Int32))) (ty := .int) (C := RX11) (T := TX11) (N := 17) hx hb hts hi_X11 tyX11 tyX11_ok nmX11 hown hK hP hD hS 0 rfl rfl 5 (by decide) (hts (.fieldLink RX11 115 "FairWheelModel" "sights" "I") (List.mem_of_getElem? (i := 1) rfl)) (fun _ h9 => h9) rfl (by decide +kernel) rfl rfl (Nat.le_of_ble_eq_true rfl) dX11_seen_61 (fun H locs hP hD hS => ?_)
        have hP : va_P D vwCl (ceM cI cZ th0 th1 th2 th3 th4 th5 th6 th7 th8 th9 ((M_weight u_th), (M_sits u_th), (M_stones u_th), (M_at u_th), (M_drag u_th), ((M_sights u_th) + (1 : Int32)), (upd (upd (M_sight u_th) ((2 : Int32) * (M_sights u_th)).toNatClampNeg p1) (((2 : Int32) * (M_sights u_th)) + (1 : Int32)).toNatClampNeg p2), (M_signs u_th), (M_pad u_th), (M_foot u_th), (M_turned u_th), (M_bothWays u_th), (M_now u_th), (M_heap u_th), (M_reason u_th), (M_image u_th), (M_isKept u_th))) H := hP
        have hD : va_D A (ceM cI cZ th0 th1 th2 th3 th4 th5 th6 th7 th8 th9 ((M_weight u_th), (M_sits u_th), (M_stones u_th), (M_at u_th), (M_drag u_th), ((M_sights u_th) + (1 : Int32)), (upd (upd (M_sight u_th) ((2 : Int32) * (M_sights u_th)).toNatClampNeg p1) (((2 : Int32) * (M_sights u_th)) + (1 : Int32)).toNatClampNeg p2), (M_signs u_th), (M_pad u_th), (M_foot u_th), (M_turned u_th), (M_bothWays u_th), (M_now u_th), (M_heap u_th), (M_reason u_th), (M_image u_th), (M_isKept u_th))) := hD
        refine lv_aload_n hx hb dX11_seen_64 rfl (lv_at hl 0 rfl) ?_
        refine va_get (D := D) (ci := 8) (v := .int ((M_sights u_th) + (1 : Int32))) (C := RX11) (T := TX11) (N := 17) hx hb hts hi_X11 hown hK hP 0 rfl rfl 5 (by decide) (hts (.fieldLink RX11 115 "FairWheelModel" "sights" "I") (List.mem_of_getElem? (i := 1) rfl)) (fun _ h9 => h9) rfl dX11_seen_65 ?_
        exact k_iret (v := ((M_sights u_th) + (1 : Int32))) (u := ((M_weight u_th), (M_sits u_th), (M_stones u_th), (M_at u_th), (M_drag u_th), ((M_sights u_th) + (1 : Int32)), (upd (upd (M_sight u_th) ((2 : Int32) * (M_sights u_th)).toNatClampNeg p1) (((2 : Int32) * (M_sights u_th)) + (1 : Int32)).toNatClampNeg p2), (M_signs u_th), (M_pad u_th), (M_foot u_th), (M_turned u_th), (M_bothWays u_th), (M_now u_th), (M_heap u_th), (M_reason u_th), (M_image u_th), (M_isKept u_th))) hx hb hr hlocks hK hS eQ hf hP hD dX11_seen_68
      · have hf := (if_pos c5).symm.trans hf
        refine lv_bipush (v := -4) hx hb dX11_seen_25 (by decide) ?_
        exact k_iret (v := (-4 : Int32)) (u := u_th) hx hb hr hlocks hK hS eQ hf hP hD dX11_seen_27
    · have hf := (if_pos c4).symm.trans hf
      refine lv_iconst (v := -1) hx hb dX11_seen_14 (by decide) ?_
      exact k_iret (v := (-1 : Int32)) (u := u_th) hx hb hr hlocks hK hS eQ hf hP hD dX11_seen_15
theorem hd_X11_forget : yX11_forget.cls ≠ "java/lang/invoke/MethodHandle" ∧ yX11_forget.cls ≠ "java/lang/invoke/VarHandle" ∧ (parseMethodDescriptor yX11_forget.desc).map (fun d => d.parameters.length) = some 0 := by decide +kernel
set_option maxHeartbeats 4000000 in
set_option maxRecDepth 100000 in
theorem c_X11_forget (l : Launch) (D : va_G) (cI cZ : ClassId) (th0 : Nat) (th1 : Nat) (th2 : Nat) (th3 : Nat) (th4 : Nat) (th5 : Nat) (th6 : Nat) (th7 : Nat) (th8 : Nat) (th9 : Nat) (sz : Nat) (u_th : sM) (z : Int32 × sM) (hf : f_X11_forget u_th = some z) : Met l yX11_forget wsX11_forget rmX11_forget (va_Pc [.ref th0] (wPr D cI cZ (ceM cI cZ th0 th1 th2 th3 th4 th5 th6 th7 th8 th9 u_th) sz)) (va_Qi (fun (r : Int32) (v : sM) => (r, v) = z) (fun (v : sM) t => wPo D cI cZ (va_A (ceM cI cZ th0 th1 th2 th3 th4 th5 th6 th7 th8 th9 u_th) sz) (ceM cI cZ th0 th1 th2 th3 th4 th5 th6 th7 th8 th9 v) t) (va_A (ceM cI cZ th0 th1 th2 th3 th4 th5 th6 th7 th8 th9 u_th) sz)) 0 0 (va_A (ceM cI cZ th0 th1 th2 th3 th4 th5 th6 th7 th8 th9 u_th) sz) := by
  refine k_enter (D := D) (cI := cI) (cZ := cZ) (wl := ceM cI cZ th0 th1 th2 th3 th4 th5 th6 th7 th8 th9 u_th) (sz := sz) (av := [.ref th0]) (cc := cX11_forget) (maxL := 2) (ret := (some .int)) (Qc := fun A => va_Qi (fun (r : Int32) (v : sM) => (r, v) = z) (fun (v : sM) t => wPo D cI cZ (A) (ceM cI cZ th0 th1 th2 th3 th4 th5 th6 th7 th8 th9 v) t) (A)) (by decide) rfl (Nat.le_of_ble_eq_true rfl) ?_
  intro p e s m below meth c ls A Q H locs eQ hx hb hr hml hts hown hlocks hK hP hD hS hA hE hl
  have hown : s.vm.findClass RX11 = some m.cls := hown
  have hl : lv_has ls 2 [(0, .ref th0)] := hl
  have hi_X11 : ∀ w ∈ wsX110, w ∈ wsX11_forget := fun w h => List.mem_cons_of_mem _ (List.mem_append_right _ h)
  rw [f_X11_forget] at hf
  refine lv_aload_n hx hb dX11_forget_0 rfl (lv_at hl 0 rfl) ?_
  refine va_get (D := D) (ci := 8) (v := .int (M_sights u_th)) (C := RX11) (T := TX11) (N := 17) hx hb hts hi_X11 hown hK hP 0 rfl rfl 5 (by decide) (hts (.fieldLink RX11 115 "FairWheelModel" "sights" "I") (List.mem_of_getElem? (i := 1) rfl)) (fun _ h9 => h9) rfl dX11_forget_1 ?_
  refine lv_istore_n (lv' := [(1, .int (M_sights u_th)), (0, .ref th0)]) hx hb dX11_forget_4 rfl hl (by decide) rfl (fun ls hl => ?_)
  refine lv_aload_n hx hb dX11_forget_5 rfl (lv_at hl 1 rfl) ?_
  refine lv_iconst (v := 0) hx hb dX11_forget_6 (by decide) ?_
  refine va_put (D := D) (ci := 8) (v := .int (0 : Int32)) (ty := .int) (C := RX11) (T := TX11) (N := 17) hx hb hts hi_X11 tyX11 tyX11_ok nmX11 hown hK hP hD hS 0 rfl rfl 5 (by decide) (hts (.fieldLink RX11 115 "FairWheelModel" "sights" "I") (List.mem_of_getElem? (i := 1) rfl)) (fun _ h9 => h9) rfl (by decide +kernel) rfl rfl (Nat.le_of_ble_eq_true rfl) dX11_forget_7 (fun H locs hP hD hS => ?_)
  have hP : va_P D vwCl (ceM cI cZ th0 th1 th2 th3 th4 th5 th6 th7 th8 th9 ((M_weight u_th), (M_sits u_th), (M_stones u_th), (M_at u_th), (M_drag u_th), (0 : Int32), (M_sight u_th), (M_signs u_th), (M_pad u_th), (M_foot u_th), (M_turned u_th), (M_bothWays u_th), (M_now u_th), (M_heap u_th), (M_reason u_th), (M_image u_th), (M_isKept u_th))) H := hP
  have hD : va_D A (ceM cI cZ th0 th1 th2 th3 th4 th5 th6 th7 th8 th9 ((M_weight u_th), (M_sits u_th), (M_stones u_th), (M_at u_th), (M_drag u_th), (0 : Int32), (M_sight u_th), (M_signs u_th), (M_pad u_th), (M_foot u_th), (M_turned u_th), (M_bothWays u_th), (M_now u_th), (M_heap u_th), (M_reason u_th), (M_image u_th), (M_isKept u_th))) := hD
  refine lv_iload_n hx hb dX11_forget_10 rfl (lv_at hl 0 rfl) ?_
  exact k_iret (v := (M_sights u_th)) (u := ((M_weight u_th), (M_sits u_th), (M_stones u_th), (M_at u_th), (M_drag u_th), (0 : Int32), (M_sight u_th), (M_signs u_th), (M_pad u_th), (M_foot u_th), (M_turned u_th), (M_bothWays u_th), (M_now u_th), (M_heap u_th), (M_reason u_th), (M_image u_th), (M_isKept u_th))) hx hb hr hlocks hK hS eQ hf hP hD dX11_forget_11
theorem hd_X11_filled : yX11_filled.cls ≠ "java/lang/invoke/MethodHandle" ∧ yX11_filled.cls ≠ "java/lang/invoke/VarHandle" ∧ (parseMethodDescriptor yX11_filled.desc).map (fun d => d.parameters.length) = some 1 := by decide +kernel
set_option maxHeartbeats 4000000 in
set_option maxRecDepth 100000 in
theorem c_X11_filled (l : Launch) (D : va_G) (cI cZ : ClassId) (th0 : Nat) (th1 : Nat) (th2 : Nat) (th3 : Nat) (th4 : Nat) (th5 : Nat) (th6 : Nat) (th7 : Nat) (th8 : Nat) (th9 : Nat) (sz : Nat) (u_th : sM) (p1 : Int32) (z : Int32 × sM) (hf : f_X11_filled u_th p1 = some z) : Met l yX11_filled wsX11_filled rmX11_filled (va_Pc [.ref th0, .int p1] (wPr D cI cZ (ceM cI cZ th0 th1 th2 th3 th4 th5 th6 th7 th8 th9 u_th) sz)) (va_Qi (fun (r : Int32) (v : sM) => (r, v) = z) (fun (v : sM) t => wPo D cI cZ (va_A (ceM cI cZ th0 th1 th2 th3 th4 th5 th6 th7 th8 th9 u_th) sz) (ceM cI cZ th0 th1 th2 th3 th4 th5 th6 th7 th8 th9 v) t) (va_A (ceM cI cZ th0 th1 th2 th3 th4 th5 th6 th7 th8 th9 u_th) sz)) 0 0 (va_A (ceM cI cZ th0 th1 th2 th3 th4 th5 th6 th7 th8 th9 u_th) sz) := by
  refine k_enter (D := D) (cI := cI) (cZ := cZ) (wl := ceM cI cZ th0 th1 th2 th3 th4 th5 th6 th7 th8 th9 u_th) (sz := sz) (av := [.ref th0, .int p1]) (cc := cX11_filled) (maxL := 8) (ret := (some .int)) (Qc := fun A => va_Qi (fun (r : Int32) (v : sM) => (r, v) = z) (fun (v : sM) t => wPo D cI cZ (A) (ceM cI cZ th0 th1 th2 th3 th4 th5 th6 th7 th8 th9 v) t) (A)) (by decide) rfl (Nat.le_of_ble_eq_true rfl) ?_
  intro p e s m below meth c ls A Q H locs eQ hx hb hr hml hts hown hlocks hK hP hD hS hA hE hl
  have hown : s.vm.findClass RX11 = some m.cls := hown
  have hl : lv_has ls 8 [(0, .ref th0), (1, .int p1)] := hl
  have hi_X11 : ∀ w ∈ wsX110, w ∈ wsX11_filled := fun w h => List.mem_cons_of_mem _ (List.mem_append_right _ h)
  have hJ111 : ∀ (K_29 : Int32 → Int32 → Int32 → Int32 → Int32 → sM → Option (Int32 × sM)), (∀ (v1 : Int32) (v2 : Int32) (v3 : Int32) (v4 : Int32) (v5 : Int32) (u_th : sM) (H : Heap) (locs : List Loc) (ls : Array Slot), lv_has ls 8 [(0, .ref th0), (1, .int v1), (2, .int v2), (3, .int v3), (4, .int v4), (5, .int v5)] → va_P D vwCl (ceM cI cZ th0 th1 th2 th3 th4 th5 th6 th7 th8 th9 u_th) H → va_D A (ceM cI cZ th0 th1 th2 th3 th4 th5 th6 th7 th8 th9 u_th) → va_S A s.heap H locs → K_29 v1 v2 v3 v4 v5 u_th = some z → W p l e (headSpec wsX11_filled rmX11_filled).room s m ([.ref th0, .int p1] : List Value).toArray below meth c H locs 0 0 Q (F0 m 29 ls [])) → ∀ (v1 : Int32) (v2 : Int32) (v3 : Int32) (v4 : Int32) (v5 : Int32) (v6 : Int32) (u_th : sM) (H : Heap) (locs : List Loc) (ls : Array Slot), lv_has ls 8 [(0, .ref th0), (1, .int v1), (2, .int v2), (3, .int v3), (4, .int v4), (5, .int v5), (6, .int v6)] → va_P D vwCl (ceM cI cZ th0 th1 th2 th3 th4 th5 th6 th7 th8 th9 u_th) H → va_D A (ceM cI cZ th0 th1 th2 th3 th4 th5 th6 th7 th8 th9 u_th) → va_S A s.heap H locs → f_X11_filled_J111 K_29 v1 v2 v3 v4 v5 v6 u_th = some z → W p l e (headSpec wsX11_filled rmX11_filled).room s m ([.ref th0, .int p1] : List Value).toArray below meth c H locs 0 0 Q (F0 m 111 ls []) := by
    intro K_29 hK_29 v1 v2 v3 v4 v5 v6 u_th H locs ls hl hP hD hS hf
    rw [f_X11_filled_J111] at hf
    refine lv_iload hx hb dX11_filled_111 (lv_at hl 6 rfl) ?_
    refine lv_if_eq (tgt := 133) hx hb dX11_filled_113 (by decide) (fun c17 => ?_) (fun c17 => ?_)
    · have hf := (if_pos c17).symm.trans hf
      refine lv_iinc (v := (v5 + (1 : Int32))) (lv' := [(5, .int (v5 + (1 : Int32))), (0, .ref th0), (1, .int v1), (2, .int v2), (3, .int v3), (4, .int v4), (6, .int v6)]) hx hb dX11_filled_133 hl (k := 5) rfl rfl (by decide) rfl (fun ls hl => ?_)
      refine lv_goto (tgt := 29) hx hb dX11_filled_136 (by decide) ?_
      exact hK_29 v1 v2 v3 v4 (v5 + (1 : Int32)) u_th _ _ ls (lv_sub hl [1, 2, 3, 4, 5, 0] rfl) hP hD hS hf
    · have hf := (if_neg c17).symm.trans hf
      refine lv_iload hx hb dX11_filled_116 (lv_at hl 4 rfl) ?_
      refine lv_if_ge (tgt := 126) hx hb dX11_filled_118 (by decide) (fun c18 => ?_) (fun c18 => ?_)
      · have hf := (if_pos c18).symm.trans hf
        refine lv_iload hx hb dX11_filled_126 (lv_at hl 4 rfl) ?_
        refine lv_istore (lv' := [(4, .int v4), (0, .ref th0), (1, .int v1), (2, .int v2), (3, .int v3), (5, .int v5), (6, .int v6)]) hx hb dX11_filled_128 hl (by decide) rfl (fun ls hl => ?_)
        refine lv_iinc (v := (v3 + (1 : Int32))) (lv' := [(3, .int (v3 + (1 : Int32))), (4, .int v4), (0, .ref th0), (1, .int v1), (2, .int v2), (5, .int v5), (6, .int v6)]) hx hb dX11_filled_130 hl (k := 4) rfl rfl (by decide) rfl (fun ls hl => ?_)
        refine lv_iinc (v := (v5 + (1 : Int32))) (lv' := [(5, .int (v5 + (1 : Int32))), (3, .int (v3 + (1 : Int32))), (4, .int v4), (0, .ref th0), (1, .int v1), (2, .int v2), (6, .int v6)]) hx hb dX11_filled_133 hl (k := 5) rfl rfl (by decide) rfl (fun ls hl => ?_)
        refine lv_goto (tgt := 29) hx hb dX11_filled_136 (by decide) ?_
        exact hK_29 v1 v2 (v3 + (1 : Int32)) v4 (v5 + (1 : Int32)) u_th _ _ ls (lv_sub hl [3, 4, 5, 1, 2, 0] rfl) hP hD hS hf
      · have hf := (if_neg c18).symm.trans hf
        refine lv_iload hx hb dX11_filled_121 (lv_at hl 5 rfl) ?_
        refine lv_goto (tgt := 128) hx hb dX11_filled_123 (by decide) ?_
        refine lv_istore (lv' := [(4, .int v5), (0, .ref th0), (1, .int v1), (2, .int v2), (3, .int v3), (5, .int v5), (6, .int v6)]) hx hb dX11_filled_128 hl (by decide) rfl (fun ls hl => ?_)
        refine lv_iinc (v := (v3 + (1 : Int32))) (lv' := [(3, .int (v3 + (1 : Int32))), (4, .int v5), (0, .ref th0), (1, .int v1), (2, .int v2), (5, .int v5), (6, .int v6)]) hx hb dX11_filled_130 hl (k := 4) rfl rfl (by decide) rfl (fun ls hl => ?_)
        refine lv_iinc (v := (v5 + (1 : Int32))) (lv' := [(5, .int (v5 + (1 : Int32))), (3, .int (v3 + (1 : Int32))), (4, .int v5), (0, .ref th0), (1, .int v1), (2, .int v2), (6, .int v6)]) hx hb dX11_filled_133 hl (k := 5) rfl rfl (by decide) rfl (fun ls hl => ?_)
        refine lv_goto (tgt := 29) hx hb dX11_filled_136 (by decide) ?_
        exact hK_29 v1 v2 (v3 + (1 : Int32)) v5 (v5 + (1 : Int32)) u_th _ _ ls (lv_sub hl [3, 4, 5, 1, 2, 0] rfl) hP hD hS hf
  have hL56 : ∀ (K_29 : Int32 → Int32 → Int32 → Int32 → Int32 → sM → Option (Int32 × sM)), (∀ (v1 : Int32) (v2 : Int32) (v3 : Int32) (v4 : Int32) (v5 : Int32) (u_th : sM) (H : Heap) (locs : List Loc) (ls : Array Slot), lv_has ls 8 [(0, .ref th0), (1, .int v1), (2, .int v2), (3, .int v3), (4, .int v4), (5, .int v5)] → va_P D vwCl (ceM cI cZ th0 th1 th2 th3 th4 th5 th6 th7 th8 th9 u_th) H → va_D A (ceM cI cZ th0 th1 th2 th3 th4 th5 th6 th7 th8 th9 u_th) → va_S A s.heap H locs → K_29 v1 v2 v3 v4 v5 u_th = some z → W p l e (headSpec wsX11_filled rmX11_filled).room s m ([.ref th0, .int p1] : List Value).toArray below meth c H locs 0 0 Q (F0 m 29 ls [])) → ∀ (n : Nat), ∀ (v1 : Int32) (v2 : Int32) (v3 : Int32) (v4 : Int32) (v5 : Int32) (v6 : Int32) (v7 : Int32) (u_th : sM) (H : Heap) (locs : List Loc) (ls : Array Slot), lv_has ls 8 [(0, .ref th0), (1, .int v1), (2, .int v2), (3, .int v3), (4, .int v4), (5, .int v5), (6, .int v6), (7, .int v7)] → va_P D vwCl (ceM cI cZ th0 th1 th2 th3 th4 th5 th6 th7 th8 th9 u_th) H → va_D A (ceM cI cZ th0 th1 th2 th3 th4 th5 th6 th7 th8 th9 u_th) → va_S A s.heap H locs → f_X11_filled_L56 K_29 n v1 v2 v3 v4 v5 v6 v7 u_th = some z → W p l e (headSpec wsX11_filled rmX11_filled).room s m ([.ref th0, .int p1] : List Value).toArray below meth c H locs 0 0 Q (F0 m 56 ls []) := by
    intro K_29 hK_29 n
    induction n with
    | zero =>
      intro v1 v2 v3 v4 v5 v6 v7 u_th H locs ls hl hP hD hS hf
      exact absurd (show (none : Option (Int32 × sM)) = some z from hf) (fun h => by cases h)
    | succ n ih =>
      intro v1 v2 v3 v4 v5 v6 v7 u_th H locs ls hl hP hD hS hf
      rw [f_X11_filled_L56] at hf
      refine lv_iload hx hb dX11_filled_56 (lv_at hl 7 rfl) ?_
      refine lv_aload_n hx hb dX11_filled_58 rfl (lv_at hl 0 rfl) ?_
      refine va_get (D := D) (ci := 8) (v := .int (M_sights u_th)) (C := RX11) (T := TX11) (N := 17) hx hb hts hi_X11 hown hK hP 0 rfl rfl 5 (by decide) (hts (.fieldLink RX11 115 "FairWheelModel" "sights" "I") (List.mem_of_getElem? (i := 1) rfl)) (fun _ h9 => h9) rfl dX11_filled_59 ?_
      refine lv_icmp_ge (tgt := 111) hx hb dX11_filled_62 (by decide) (fun c16 => ?_) (fun c16 => ?_)
      · have hf := (if_pos c16).symm.trans hf
        exact hJ111 K_29 hK_29 v1 v2 v3 v4 v5 v6 u_th _ _ ls (lv_sub hl [0, 1, 2, 3, 4, 5, 6] rfl) hP hD hS hf
      · have hf := (if_neg c16).symm.trans hf
        refine lv_iload hx hb dX11_filled_65 (lv_at hl 6 rfl) ?_
        refine lv_if_eq (tgt := 111) hx hb dX11_filled_67 (by decide) (fun c19 => ?_) (fun c19 => ?_)
        · have hf := (if_pos c19).symm.trans hf
          exact hJ111 K_29 hK_29 v1 v2 v3 v4 v5 v6 u_th _ _ ls (lv_sub hl [0, 1, 2, 3, 4, 5, 6] rfl) hP hD hS hf
        · have hf := (if_neg c19).symm.trans hf
          refine lv_aload_n hx hb dX11_filled_70 rfl (lv_at hl 0 rfl) ?_
          refine va_get (D := D) (ci := 8) (v := .ref th6) (C := RX11) (T := TX11) (N := 17) hx hb hts hi_X11 hown hK hP 0 rfl rfl 12 (by decide) (hts (.fieldLink RX11 29 "FairWheelModel" "now" "[I") (List.mem_of_getElem? (i := 2) rfl)) (fun _ h9 => h9) rfl dX11_filled_71 ?_
          refine lv_aload_n hx hb dX11_filled_74 rfl (lv_at hl 0 rfl) ?_
          refine va_get (D := D) (ci := 8) (v := .ref th4) (C := RX11) (T := TX11) (N := 17) hx hb hts hi_X11 hown hK hP 0 rfl rfl 6 (by decide) (hts (.fieldLink RX11 23 "FairWheelModel" "sight" "[I") (List.mem_of_getElem? (i := 3) rfl)) (fun _ h9 => h9) rfl dX11_filled_75 ?_
          refine lv_iconst (v := 2) hx hb dX11_filled_78 (by decide) ?_
          refine lv_iload hx hb dX11_filled_79 (lv_at hl 7 rfl) ?_
          refine lv_imul hx hb dX11_filled_81 ?_
          refine lv_iconst (v := 1) hx hb dX11_filled_82 (by decide) ?_
          refine lv_iadd hx hb dX11_filled_83 ?_
          by_cases c20 : (((2 : Int32) * v7) + (1 : Int32)) < 0 ∨ 12 ≤ (((2 : Int32) * v7) + (1 : Int32)).toNatClampNeg
          · have hf := (if_pos c20).symm.trans hf
            cases hf
          have hf := (if_neg c20).symm.trans hf
          refine va_iald hx hb hK hP 4 0 rfl rfl (show vp_in (((2 : Int32) * v7) + (1 : Int32)) 12 from c20) dX11_filled_84 ?_
          by_cases c21 : ((M_sight u_th) (((2 : Int32) * v7) + (1 : Int32)).toNatClampNeg) < 0 ∨ 8 ≤ ((M_sight u_th) (((2 : Int32) * v7) + (1 : Int32)).toNatClampNeg).toNatClampNeg
          · have hf := (if_pos c21).symm.trans hf
            cases hf
          have hf := (if_neg c21).symm.trans hf
          refine va_iald hx hb hK hP 6 0 rfl rfl (show vp_in ((M_sight u_th) (((2 : Int32) * v7) + (1 : Int32)).toNatClampNeg) 8 from c21) dX11_filled_85 ?_
          refine lv_aload_n hx hb dX11_filled_86 rfl (lv_at hl 0 rfl) ?_
          refine va_get (D := D) (ci := 8) (v := .ref th4) (C := RX11) (T := TX11) (N := 17) hx hb hts hi_X11 hown hK hP 0 rfl rfl 6 (by decide) (hts (.fieldLink RX11 23 "FairWheelModel" "sight" "[I") (List.mem_of_getElem? (i := 3) rfl)) (fun _ h9 => h9) rfl dX11_filled_87 ?_
          refine lv_iconst (v := 2) hx hb dX11_filled_90 (by decide) ?_
          refine lv_iload hx hb dX11_filled_91 (lv_at hl 7 rfl) ?_
          refine lv_imul hx hb dX11_filled_93 ?_
          by_cases c22 : ((2 : Int32) * v7) < 0 ∨ 12 ≤ ((2 : Int32) * v7).toNatClampNeg
          · have hf := (if_pos c22).symm.trans hf
            cases hf
          have hf := (if_neg c22).symm.trans hf
          refine va_iald hx hb hK hP 4 0 rfl rfl (show vp_in ((2 : Int32) * v7) 12 from c22) dX11_filled_94 ?_
          refine lv_icmp_ne (tgt := 102) hx hb dX11_filled_95 (by decide) (fun c23 => ?_) (fun c23 => ?_)
          · have hf := (if_neg c23).symm.trans hf
            refine lv_iconst (v := 0) hx hb dX11_filled_102 (by decide) ?_
            refine lv_istore (lv' := [(6, .int (0 : Int32)), (0, .ref th0), (1, .int v1), (2, .int v2), (3, .int v3), (4, .int v4), (5, .int v5), (7, .int v7)]) hx hb dX11_filled_103 hl (by decide) rfl (fun ls hl => ?_)
            refine lv_iinc (v := (v7 + (1 : Int32))) (lv' := [(7, .int (v7 + (1 : Int32))), (6, .int (0 : Int32)), (0, .ref th0), (1, .int v1), (2, .int v2), (3, .int v3), (4, .int v4), (5, .int v5)]) hx hb dX11_filled_105 hl (k := 7) rfl rfl (by decide) rfl (fun ls hl => ?_)
            refine lv_goto (tgt := 56) hx hb dX11_filled_108 (by decide) ?_
            exact ih v1 v2 v3 v4 v5 (0 : Int32) (v7 + (1 : Int32)) u_th _ _ ls (lv_sub hl [2, 3, 4, 5, 6, 7, 1, 0] rfl) hP hD hS hf
          · have hf := (if_pos c23).symm.trans hf
            refine lv_iconst (v := 1) hx hb dX11_filled_98 (by decide) ?_
            refine lv_goto (tgt := 103) hx hb dX11_filled_99 (by decide) ?_
            refine lv_istore (lv' := [(6, .int (1 : Int32)), (0, .ref th0), (1, .int v1), (2, .int v2), (3, .int v3), (4, .int v4), (5, .int v5), (7, .int v7)]) hx hb dX11_filled_103 hl (by decide) rfl (fun ls hl => ?_)
            refine lv_iinc (v := (v7 + (1 : Int32))) (lv' := [(7, .int (v7 + (1 : Int32))), (6, .int (1 : Int32)), (0, .ref th0), (1, .int v1), (2, .int v2), (3, .int v3), (4, .int v4), (5, .int v5)]) hx hb dX11_filled_105 hl (k := 7) rfl rfl (by decide) rfl (fun ls hl => ?_)
            refine lv_goto (tgt := 56) hx hb dX11_filled_108 (by decide) ?_
            exact ih v1 v2 v3 v4 v5 (1 : Int32) (v7 + (1 : Int32)) u_th _ _ ls (lv_sub hl [2, 3, 4, 5, 6, 7, 1, 0] rfl) hP hD hS hf
  have hL29 : ∀ (n : Nat), ∀ (v1 : Int32) (v2 : Int32) (v3 : Int32) (v4 : Int32) (v5 : Int32) (u_th : sM) (H : Heap) (locs : List Loc) (ls : Array Slot), lv_has ls 8 [(0, .ref th0), (1, .int v1), (2, .int v2), (3, .int v3), (4, .int v4), (5, .int v5)] → va_P D vwCl (ceM cI cZ th0 th1 th2 th3 th4 th5 th6 th7 th8 th9 u_th) H → va_D A (ceM cI cZ th0 th1 th2 th3 th4 th5 th6 th7 th8 th9 u_th) → va_S A s.heap H locs → f_X11_filled_L29 n v1 v2 v3 v4 v5 u_th = some z → W p l e (headSpec wsX11_filled rmX11_filled).room s m ([.ref th0, .int p1] : List Value).toArray below meth c H locs 0 0 Q (F0 m 29 ls []) := by
    intro n
    induction n with
    | zero =>
      intro v1 v2 v3 v4 v5 u_th H locs ls hl hP hD hS hf
      exact absurd (show (none : Option (Int32 × sM)) = some z from hf) (fun h => by cases h)
    | succ n ih =>
      intro v1 v2 v3 v4 v5 u_th H locs ls hl hP hD hS hf
      rw [f_X11_filled_L29] at hf
      refine lv_iload hx hb dX11_filled_29 (lv_at hl 5 rfl) ?_
      refine lv_iload_n hx hb dX11_filled_31 rfl (lv_at hl 2 rfl) ?_
      refine lv_icmp_ge (tgt := 139) hx hb dX11_filled_32 (by decide) (fun c5 => ?_) (fun c5 => ?_)
      · have hf := (if_pos c5).symm.trans hf
        refine lv_iload_n hx hb dX11_filled_139 rfl (lv_at hl 1 rfl) ?_
        refine lv_iconst (v := -1) hx hb dX11_filled_140 (by decide) ?_
        refine lv_icmp_ne (tgt := 146) hx hb dX11_filled_141 (by decide) (fun c6 => ?_) (fun c6 => ?_)
        · have hf := (if_neg c6).symm.trans hf
          refine lv_iload hx hb dX11_filled_146 (lv_at hl 4 rfl) ?_
          refine lv_if_lt (tgt := 187) hx hb dX11_filled_148 (by decide) (fun c7 => ?_) (fun c7 => ?_)
          · have hf := (if_pos c7).symm.trans hf
            refine lv_bipush (v := -6) hx hb dX11_filled_187 (by decide) ?_
            exact k_iret (v := (-6 : Int32)) (u := u_th) hx hb hr hlocks hK hS eQ hf hP hD dX11_filled_189
          · have hf := (if_neg c7).symm.trans hf
            refine lv_iload_n hx hb dX11_filled_151 rfl (lv_at hl 1 rfl) ?_
            refine lv_iconst (v := 0) hx hb dX11_filled_152 (by decide) ?_
            refine lv_aload_n hx hb dX11_filled_153 rfl (lv_at hl 0 rfl) ?_
            obtain ⟨z8, hz_z8, hf⟩ := o_bind hf
            refine k_calli (va_runV (As := []) (rest := [.int (0 : Int32), .int v1]) ⟨hx, hb, hml, hown, hts⟩ (c_X11_opens l D cI cZ th0 th1 th2 th3 th4 th5 th6 th7 th8 th9 H.size u_th z8 hz_z8) (cwV 0 hts gX11_filled_X11_opens rfl rfl rfl ⟨rfl, hd_X11_opens⟩ ⟨Nat.le_of_ble_eq_true rfl, Nat.le_of_ble_eq_true rfl⟩) (k_preV hK hP hD hS hA hE [0, 1, 2, 3, 4, 5, 6, 7, 8, 9] (by decide) rfl (ci := 8) rfl rfl) rfl rfl hl.1 rfl (lv_room (Nat.le_of_ble_eq_true rfl)) dX11_filled_154 ⟨Nat.zero_le _, Nat.zero_le _⟩) hP hD hS hA [0, 1, 2, 3, 4, 5, 6, 7, 8, 9] [some 0, some 1, some 2, some 3, some 4, some 5, some 6, some 7, some 8, some 9] 10 rfl (by decide) (by decide) rfl rfl (fun H locs hP hD hS => ?_)
            have hP : va_P D vwCl (ceM cI cZ th0 th1 th2 th3 th4 th5 th6 th7 th8 th9 u_th) H := hP
            have hD : va_D A (ceM cI cZ th0 th1 th2 th3 th4 th5 th6 th7 th8 th9 u_th) := hD
            refine lv_iconst (v := 1) hx hb dX11_filled_157 (by decide) ?_
            refine lv_isub hx hb dX11_filled_158 ?_
            obtain ⟨z9, hz_z9, hf⟩ := o_bind hf
            refine k_calli (va_runS (As := [.int v1, .int (0 : Int32), .int (z8.1 - (1 : Int32))]) (rest := []) ⟨hx, hb, hml, hown, hts⟩ (c_X11_in l D cI cZ  H.size v1 (0 : Int32) (z8.1 - (1 : Int32)) z9 hz_z9) (va_cwS 3 hts gX11_filled_X11_in rfl rfl rfl hd_X11_in ⟨Nat.le_of_ble_eq_true rfl, Nat.le_of_ble_eq_true rfl⟩) (k_preS hK hP hD hS hA hE [] (by decide) rfl) rfl rfl hl.1 rfl (lv_room (Nat.le_of_ble_eq_true rfl)) dX11_filled_159 ⟨Nat.zero_le _, Nat.zero_le _⟩) hP hD hS hA [] [none, none, none, none, none, none, none, none, none, none] 0 rfl (by decide) (by decide) rfl rfl (fun H locs hP hD hS => ?_)
            have hP : va_P D vwCl (ceM cI cZ th0 th1 th2 th3 th4 th5 th6 th7 th8 th9 u_th) H := hP
            have hD : va_D A (ceM cI cZ th0 th1 th2 th3 th4 th5 th6 th7 th8 th9 u_th) := hD
            refine lv_if_eq (tgt := 187) hx hb dX11_filled_162 (by decide) (fun c10 => ?_) (fun c10 => ?_)
            · have hf := (if_pos c10).symm.trans hf
              refine lv_bipush (v := -6) hx hb dX11_filled_187 (by decide) ?_
              exact k_iret (v := (-6 : Int32)) (u := u_th) hx hb hr hlocks hK hS eQ hf hP hD dX11_filled_189
            · have hf := (if_neg c10).symm.trans hf
              refine lv_iload hx hb dX11_filled_165 (lv_at hl 4 rfl) ?_
              refine lv_bipush (v := 8) hx hb dX11_filled_167 (by decide) ?_
              refine lv_aload_n hx hb dX11_filled_169 rfl (lv_at hl 0 rfl) ?_
              obtain ⟨z11, hz_z11, hf⟩ := o_bind hf
              refine k_calli (va_runV (As := []) (rest := [.int (8 : Int32), .int v4]) ⟨hx, hb, hml, hown, hts⟩ (c_X11_opens l D cI cZ th0 th1 th2 th3 th4 th5 th6 th7 th8 th9 H.size u_th z11 hz_z11) (cwV 0 hts gX11_filled_X11_opens rfl rfl rfl ⟨rfl, hd_X11_opens⟩ ⟨Nat.le_of_ble_eq_true rfl, Nat.le_of_ble_eq_true rfl⟩) (k_preV hK hP hD hS hA hE [0, 1, 2, 3, 4, 5, 6, 7, 8, 9] (by decide) rfl (ci := 8) rfl rfl) rfl rfl hl.1 rfl (lv_room (Nat.le_of_ble_eq_true rfl)) dX11_filled_170 ⟨Nat.zero_le _, Nat.zero_le _⟩) hP hD hS hA [0, 1, 2, 3, 4, 5, 6, 7, 8, 9] [some 0, some 1, some 2, some 3, some 4, some 5, some 6, some 7, some 8, some 9] 10 rfl (by decide) (by decide) rfl rfl (fun H locs hP hD hS => ?_)
              have hP : va_P D vwCl (ceM cI cZ th0 th1 th2 th3 th4 th5 th6 th7 th8 th9 u_th) H := hP
              have hD : va_D A (ceM cI cZ th0 th1 th2 th3 th4 th5 th6 th7 th8 th9 u_th) := hD
              refine lv_iconst (v := 1) hx hb dX11_filled_173 (by decide) ?_
              refine lv_isub hx hb dX11_filled_174 ?_
              refine lv_iload_n hx hb dX11_filled_175 rfl (lv_at hl 1 rfl) ?_
              refine lv_isub hx hb dX11_filled_176 ?_
              obtain ⟨z12, hz_z12, hf⟩ := o_bind hf
              refine k_calli (va_runS (As := [.int (8 : Int32), .int ((z11.1 - (1 : Int32)) - v1)]) (rest := [.int v4]) ⟨hx, hb, hml, hown, hts⟩ (c_X11_powerOf l D cI cZ  H.size (8 : Int32) ((z11.1 - (1 : Int32)) - v1) z12 hz_z12) (va_cwS 2 hts gX11_filled_X11_powerOf rfl rfl rfl hd_X11_powerOf ⟨Nat.le_of_ble_eq_true rfl, Nat.le_of_ble_eq_true rfl⟩) (k_preS hK hP hD hS hA hE [] (by decide) rfl) rfl rfl hl.1 rfl (lv_room (Nat.le_of_ble_eq_true rfl)) dX11_filled_177 ⟨Nat.zero_le _, Nat.zero_le _⟩) hP hD hS hA [] [none, none, none, none, none, none, none, none, none, none] 0 rfl (by decide) (by decide) rfl rfl (fun H locs hP hD hS => ?_)
              have hP : va_P D vwCl (ceM cI cZ th0 th1 th2 th3 th4 th5 th6 th7 th8 th9 u_th) H := hP
              have hD : va_D A (ceM cI cZ th0 th1 th2 th3 th4 th5 th6 th7 th8 th9 u_th) := hD
              by_cases c13 : z12.1 = 0
              · have hf := (if_pos c13).symm.trans hf
                cases hf
              have hf := (if_neg c13).symm.trans hf
              refine lv_idiv hx hb dX11_filled_180 c13 ?_
              refine lv_bipush (v := 8) hx hb dX11_filled_181 (by decide) ?_
              refine lv_irem hx hb dX11_filled_183 (by decide) ?_
              refine lv_goto (tgt := 189) hx hb dX11_filled_184 (by decide) ?_
              exact k_iret (v := ((v4 / z12.1) - (v4 / z12.1) / (8 : Int32) * (8 : Int32))) (u := u_th) hx hb hr hlocks hK hS eQ hf hP hD dX11_filled_189
        · have hf := (if_pos c6).symm.trans hf
          refine lv_iload_n hx hb dX11_filled_144 rfl (lv_at hl 3 rfl) ?_
          exact k_iret (v := v3) (u := u_th) hx hb hr hlocks hK hS eQ hf hP hD dX11_filled_145
      · have hf := (if_neg c5).symm.trans hf
        refine lv_aload_n hx hb dX11_filled_35 rfl (lv_at hl 0 rfl) ?_
        refine lv_iload hx hb dX11_filled_36 (lv_at hl 5 rfl) ?_
        refine lv_bipush (v := -6) hx hb dX11_filled_38 (by decide) ?_
        obtain ⟨z14, hz_z14, hf⟩ := o_bind hf
        refine k_calli (va_runV (As := [.int v5, .int (-6 : Int32)]) (rest := []) ⟨hx, hb, hml, hown, hts⟩ (c_X11_goText l D cI cZ th0 th1 th2 th3 th4 th5 th6 th7 th8 th9 H.size u_th v5 (-6 : Int32) z14 hz_z14) (cwV 2 hts gX11_filled_X11_goText rfl rfl rfl ⟨rfl, hd_X11_goText⟩ ⟨Nat.le_of_ble_eq_true rfl, Nat.le_of_ble_eq_true rfl⟩) (k_preV hK hP hD hS hA hE [0, 1, 2, 3, 4, 5, 6, 7, 8, 9] (by decide) rfl (ci := 8) rfl rfl) rfl rfl hl.1 rfl (lv_room (Nat.le_of_ble_eq_true rfl)) dX11_filled_40 ⟨Nat.zero_le _, Nat.zero_le _⟩) hP hD hS hA [0, 1, 2, 3, 4, 5, 6, 7, 8, 9] [some 0, some 1, some 2, some 3, some 4, some 5, some 6, some 7, some 8, some 9] 10 rfl (by decide) (by decide) rfl rfl (fun H locs hP hD hS => ?_)
        have hP : va_P D vwCl (ceM cI cZ th0 th1 th2 th3 th4 th5 th6 th7 th8 th9 z14.2) H := hP
        have hD : va_D A (ceM cI cZ th0 th1 th2 th3 th4 th5 th6 th7 th8 th9 z14.2) := hD
        refine lv_if_ge (tgt := 50) hx hb dX11_filled_43 (by decide) (fun c15 => ?_) (fun c15 => ?_)
        · have hf := (if_pos c15).symm.trans hf
          refine lv_iconst (v := 0) hx hb dX11_filled_50 (by decide) ?_
          refine lv_istore (lv' := [(6, .int (0 : Int32)), (0, .ref th0), (1, .int v1), (2, .int v2), (3, .int v3), (4, .int v4), (5, .int v5)]) hx hb dX11_filled_51 hl (by decide) rfl (fun ls hl => ?_)
          refine lv_iconst (v := 0) hx hb dX11_filled_53 (by decide) ?_
          refine lv_istore (lv' := [(7, .int (0 : Int32)), (6, .int (0 : Int32)), (0, .ref th0), (1, .int v1), (2, .int v2), (3, .int v3), (4, .int v4), (5, .int v5)]) hx hb dX11_filled_54 hl (by decide) rfl (fun ls hl => ?_)
          exact hL56 (f_X11_filled_L29 n) ih oF v1 v2 v3 v4 v5 (0 : Int32) (0 : Int32) z14.2 _ _ ls (lv_sub hl [2, 3, 4, 5, 6, 7, 1, 0] rfl) hP hD hS hf
        · have hf := (if_neg c15).symm.trans hf
          refine lv_iconst (v := 1) hx hb dX11_filled_46 (by decide) ?_
          refine lv_goto (tgt := 51) hx hb dX11_filled_47 (by decide) ?_
          refine lv_istore (lv' := [(6, .int (1 : Int32)), (0, .ref th0), (1, .int v1), (2, .int v2), (3, .int v3), (4, .int v4), (5, .int v5)]) hx hb dX11_filled_51 hl (by decide) rfl (fun ls hl => ?_)
          refine lv_iconst (v := 0) hx hb dX11_filled_53 (by decide) ?_
          refine lv_istore (lv' := [(7, .int (0 : Int32)), (6, .int (1 : Int32)), (0, .ref th0), (1, .int v1), (2, .int v2), (3, .int v3), (4, .int v4), (5, .int v5)]) hx hb dX11_filled_54 hl (by decide) rfl (fun ls hl => ?_)
          exact hL56 (f_X11_filled_L29 n) ih oF v1 v2 v3 v4 v5 (1 : Int32) (0 : Int32) z14.2 _ _ ls (lv_sub hl [2, 3, 4, 5, 6, 7, 1, 0] rfl) hP hD hS hf
  rw [f_X11_filled] at hf
  refine lv_aload_n hx hb dX11_filled_0 rfl (lv_at hl 0 rfl) ?_
  obtain ⟨z1, hz_z1, hf⟩ := o_bind hf
  refine k_calli (va_runV (As := []) (rest := []) ⟨hx, hb, hml, hown, hts⟩ (c_X11_faultOf l D cI cZ th0 th1 th2 th3 th4 th5 th6 th7 th8 th9 H.size u_th z1 hz_z1) (cwV 0 hts gX11_filled_X11_faultOf rfl rfl rfl ⟨rfl, hd_X11_faultOf⟩ ⟨Nat.le_of_ble_eq_true rfl, Nat.le_of_ble_eq_true rfl⟩) (k_preV hK hP hD hS hA hE [0, 1, 2, 3, 4, 5, 6, 7, 8, 9] (by decide) rfl (ci := 8) rfl rfl) rfl rfl hl.1 rfl (lv_room (Nat.le_of_ble_eq_true rfl)) dX11_filled_1 ⟨Nat.zero_le _, Nat.zero_le _⟩) hP hD hS hA [0, 1, 2, 3, 4, 5, 6, 7, 8, 9] [some 0, some 1, some 2, some 3, some 4, some 5, some 6, some 7, some 8, some 9] 10 rfl (by decide) (by decide) rfl rfl (fun H locs hP hD hS => ?_)
  have hP : va_P D vwCl (ceM cI cZ th0 th1 th2 th3 th4 th5 th6 th7 th8 th9 u_th) H := hP
  have hD : va_D A (ceM cI cZ th0 th1 th2 th3 th4 th5 th6 th7 th8 th9 u_th) := hD
  refine lv_if_lt (tgt := 10) hx hb dX11_filled_4 (by decide) (fun c2 => ?_) (fun c2 => ?_)
  · have hf := (if_pos c2).symm.trans hf
    refine lv_bipush (v := 8) hx hb dX11_filled_10 (by decide) ?_
    refine lv_aload_n hx hb dX11_filled_12 rfl (lv_at hl 0 rfl) ?_
    obtain ⟨z3, hz_z3, hf⟩ := o_bind hf
    refine k_calli (va_runV (As := []) (rest := [.int (8 : Int32)]) ⟨hx, hb, hml, hown, hts⟩ (c_X11_opens l D cI cZ th0 th1 th2 th3 th4 th5 th6 th7 th8 th9 H.size u_th z3 hz_z3) (cwV 0 hts gX11_filled_X11_opens rfl rfl rfl ⟨rfl, hd_X11_opens⟩ ⟨Nat.le_of_ble_eq_true rfl, Nat.le_of_ble_eq_true rfl⟩) (k_preV hK hP hD hS hA hE [0, 1, 2, 3, 4, 5, 6, 7, 8, 9] (by decide) rfl (ci := 8) rfl rfl) rfl rfl hl.1 rfl (lv_room (Nat.le_of_ble_eq_true rfl)) dX11_filled_13 ⟨Nat.zero_le _, Nat.zero_le _⟩) hP hD hS hA [0, 1, 2, 3, 4, 5, 6, 7, 8, 9] [some 0, some 1, some 2, some 3, some 4, some 5, some 6, some 7, some 8, some 9] 10 rfl (by decide) (by decide) rfl rfl (fun H locs hP hD hS => ?_)
    have hP : va_P D vwCl (ceM cI cZ th0 th1 th2 th3 th4 th5 th6 th7 th8 th9 u_th) H := hP
    have hD : va_D A (ceM cI cZ th0 th1 th2 th3 th4 th5 th6 th7 th8 th9 u_th) := hD
    obtain ⟨z4, hz_z4, hf⟩ := o_bind hf
    refine k_calli (va_runS (As := [.int (8 : Int32), .int z3.1]) (rest := []) ⟨hx, hb, hml, hown, hts⟩ (c_X11_powerOf l D cI cZ  H.size (8 : Int32) z3.1 z4 hz_z4) (va_cwS 2 hts gX11_filled_X11_powerOf rfl rfl rfl hd_X11_powerOf ⟨Nat.le_of_ble_eq_true rfl, Nat.le_of_ble_eq_true rfl⟩) (k_preS hK hP hD hS hA hE [] (by decide) rfl) rfl rfl hl.1 rfl (lv_room (Nat.le_of_ble_eq_true rfl)) dX11_filled_16 ⟨Nat.zero_le _, Nat.zero_le _⟩) hP hD hS hA [] [none, none, none, none, none, none, none, none, none, none] 0 rfl (by decide) (by decide) rfl rfl (fun H locs hP hD hS => ?_)
    have hP : va_P D vwCl (ceM cI cZ th0 th1 th2 th3 th4 th5 th6 th7 th8 th9 u_th) H := hP
    have hD : va_D A (ceM cI cZ th0 th1 th2 th3 th4 th5 th6 th7 th8 th9 u_th) := hD
    refine lv_istore_n (lv' := [(2, .int z4.1), (0, .ref th0), (1, .int p1)]) hx hb dX11_filled_19 rfl hl (by decide) rfl (fun ls hl => ?_)
    refine lv_iconst (v := 0) hx hb dX11_filled_20 (by decide) ?_
    refine lv_istore_n (lv' := [(3, .int (0 : Int32)), (2, .int z4.1), (0, .ref th0), (1, .int p1)]) hx hb dX11_filled_21 rfl hl (by decide) rfl (fun ls hl => ?_)
    refine lv_bipush (v := -6) hx hb dX11_filled_22 (by decide) ?_
    refine lv_istore (lv' := [(4, .int (-6 : Int32)), (3, .int (0 : Int32)), (2, .int z4.1), (0, .ref th0), (1, .int p1)]) hx hb dX11_filled_24 hl (by decide) rfl (fun ls hl => ?_)
    refine lv_iconst (v := 0) hx hb dX11_filled_26 (by decide) ?_
    refine lv_istore (lv' := [(5, .int (0 : Int32)), (4, .int (-6 : Int32)), (3, .int (0 : Int32)), (2, .int z4.1), (0, .ref th0), (1, .int p1)]) hx hb dX11_filled_27 hl (by decide) rfl (fun ls hl => ?_)
    exact hL29 oF p1 z4.1 (0 : Int32) (-6 : Int32) (0 : Int32) u_th _ _ ls (lv_sub hl [4, 5, 3, 2, 1, 0] rfl) hP hD hS hf
  · have hf := (if_neg c2).symm.trans hf
    refine lv_bipush (v := -5) hx hb dX11_filled_7 (by decide) ?_
    exact k_iret (v := (-5 : Int32)) (u := u_th) hx hb hr hlocks hK hS eQ hf hP hD dX11_filled_9
