set_option maxHeartbeats 40000000 in
set_option maxRecDepth 100000 in
theorem law_loop {p : Program} {l : Launch} {e : Env} {s : State} {m : MethodId} {below : List Frame} {meth : Method} {c : Code} {b L : Nat} {xs : Nat → Int32} (D : va_G) (cI cZ : ClassId) (A : Nat → Prop) (hA : ∀ q, s.heap.size ≤ q → A q) (hAs : ∀ q, A q → s.heap.size ≤ q) (hbA : ¬ A b) (hx : p.tables.exec = Jvm.exec) (hb : c.code = cL_law) (hr : meth.sig.returnType = ret) (hml : c.maxLocals = 4) (hown : s.vm.findClass RL = some m.cls) (hts : ∀ w ∈ wsL_law, w.before #[Value.ref b] s = true) (hX : va_X b L xs s s.heap) (hbl : b < s.heap.size) (hlocks : meth.locks = false) (hK : va_K D vwCl (wTy cI cZ) s) (hE : wE A s) (th0 th1 th2 th3 th4 th5 th6 th7 th8 th9 wheel1 wheel2 wheel3 wheel4 trial1 trial2 trial3 trial4 pad1 sights1 sights2 telling1 telling2 telling3 telling4 telling5 seating1 seating2 seating3 seating4 seating5 seating6 turns1 turns2 turns3 turns4 turns5 turns6 firstImage1 firstImage2 firstImage3 firstImage4 firstImage5 firstImage6 firstImage7 firstImage8 secondImage1 secondImage2 secondImage3 secondImage4 secondImage5 secondImage6 secondImage7 secondImage8 md0 md1 md2 md3 md4 md5 md6 md7 md8 md9 : Nat) : ∀ (n : Nat), ∀ (v3 : Int32) (u_wheel : sW) (u_trial : sW) (u_pad : sP) (u_sights : sS) (u_telling : sT) (u_seating : sG) (u_turns : sU) (u_firstImage : sI) (u_secondImage : sI) (u_md : sM) (H : Heap) (locs : List Loc) (ls : Array Slot), lv_has ls 4 [(0, .ref b), (1, .ref th0), (2, .ref md0), (3, .int v3)] → va_P D vwCl (ceX th0 th1 th2 th3 th4 th5 th6 th7 th8 th9 ++ (ceW cI cZ th1 wheel1 wheel2 wheel3 wheel4 u_wheel ++ (ceW cI cZ th2 trial1 trial2 trial3 trial4 u_trial ++ (ceP cI cZ th3 pad1 u_pad ++ (ceS cI cZ th4 sights1 sights2 u_sights ++ (ceT cI cZ th5 telling1 telling2 telling3 telling4 telling5 u_telling ++ (ceG cI cZ th6 seating1 seating2 seating3 seating4 seating5 seating6 u_seating ++ (ceU cI cZ th7 turns1 turns2 turns3 turns4 turns5 turns6 u_turns ++ (ceI cI cZ th8 firstImage1 firstImage2 firstImage3 firstImage4 firstImage5 firstImage6 firstImage7 firstImage8 u_firstImage ++ (ceI cI cZ th9 secondImage1 secondImage2 secondImage3 secondImage4 secondImage5 secondImage6 secondImage7 secondImage8 u_secondImage ++ (ceM cI cZ md0 md1 md2 md3 md4 md5 md6 md7 md8 md9 u_md))))))))))) H → va_D A (ceX th0 th1 th2 th3 th4 th5 th6 th7 th8 th9 ++ (ceW cI cZ th1 wheel1 wheel2 wheel3 wheel4 u_wheel ++ (ceW cI cZ th2 trial1 trial2 trial3 trial4 u_trial ++ (ceP cI cZ th3 pad1 u_pad ++ (ceS cI cZ th4 sights1 sights2 u_sights ++ (ceT cI cZ th5 telling1 telling2 telling3 telling4 telling5 u_telling ++ (ceG cI cZ th6 seating1 seating2 seating3 seating4 seating5 seating6 u_seating ++ (ceU cI cZ th7 turns1 turns2 turns3 turns4 turns5 turns6 u_turns ++ (ceI cI cZ th8 firstImage1 firstImage2 firstImage3 firstImage4 firstImage5 firstImage6 firstImage7 firstImage8 u_firstImage ++ (ceI cI cZ th9 secondImage1 secondImage2 secondImage3 secondImage4 secondImage5 secondImage6 secondImage7 secondImage8 u_secondImage ++ (ceM cI cZ md0 md1 md2 md3 md4 md5 md6 md7 md8 md9 u_md))))))))))) → va_S A s.heap H locs → f_L_law_L18 L xs n v3 u_wheel u_trial u_pad u_sights u_telling u_seating u_turns u_firstImage u_secondImage u_md = some 1 → W p l e room_1 s m #[Value.ref b] below meth c H locs 64 629 (lw_Z below #[Value.ref b] s) (F0 m 18 ls []) := by
  intro n
  induction n with
  | zero =>
    intro v3 u_wheel u_trial u_pad u_sights u_telling u_seating u_turns u_firstImage u_secondImage u_md H locs ls hl hP hD hS hf
    exact absurd (show (none : Option (Int32)) = some 1 from hf) (fun h => by cases h)
  | succ n ih =>
    intro v3 u_wheel u_trial u_pad u_sights u_telling u_seating u_turns u_firstImage u_secondImage u_md H locs ls hl hP hD hS hf
    rw [f_L_law_L18] at hf
    refine lv_iload_n hx hb dL_law_18 rfl (lv_at hl 3 rfl) ?_
    refine lv_aload_n hx hb dL_law_19 rfl (lv_at hl 0 rfl) ?_
    refine va_slen hx hb hX hbl hbA hS dL_law_20 ?_
    refine lv_iconst (v := 4) hx hb dL_law_21 (by decide) ?_
    refine lv_isub hx hb dL_law_22 ?_
    refine lv_icmp_gt (tgt := 770) hx hb dL_law_23 (by decide) (fun c1 => ?_) (fun c1 => ?_)
    · have hf := (if_pos c1).symm.trans hf
      refine lv_iconst (v := 1) hx hb dL_law_770 (by decide) ?_
      refine va_forget (fun q hq => hAs _ (hS.2.2 q hq)) ?_
      refine W.widen (k := 600000) (n := 7302250) (Nat.le_of_ble_eq_true rfl) (Nat.le_of_ble_eq_true rfl) ?_
      exact lw_ret hx hb hr hlocks dL_law_771
    · have hf := (if_neg c1).symm.trans hf
      refine lv_aload_n hx hb dL_law_26 rfl (lv_at hl 0 rfl) ?_
      refine lv_iload_n hx hb dL_law_27 rfl (lv_at hl 3 rfl) ?_
      by_cases c2 : v3 < 0 ∨ L ≤ v3.toNatClampNeg
      · have hf := (if_pos c2).symm.trans hf
        cases hf
      have hf := (if_neg c2).symm.trans hf
      refine va_sld hx hb hX hbl hbA hS (show vp_in v3 L from c2) dL_law_28 ?_
      refine lv_bipush (v := 31) hx hb dL_law_29 (by decide) ?_
      refine lv_iand hx hb dL_law_31 ?_
      by_cases c3 : ((xs v3.toNatClampNeg) &&& (31 : Int32)) = 0
      · have hf := (if_pos c3).symm.trans hf
        refine lv_tableIn hx hb dL_law_32 (by rw [c3]; decide) (by rw [c3]; decide) (off := 116) (tgt := 148) (by rw [c3]; rfl) (by decide) ?_
        refine lv_aload_n hx hb dL_law_148 rfl (lv_at hl 1 rfl) ?_
        refine lv_aload_n hx hb dL_law_149 rfl (lv_at hl 0 rfl) ?_
        refine lv_iload_n hx hb dL_law_150 rfl (lv_at hl 3 rfl) ?_
        refine lv_iconst (v := 1) hx hb dL_law_151 (by decide) ?_
        refine lv_iadd hx hb dL_law_152 ?_
        by_cases c4 : (v3 + (1 : Int32)) < 0 ∨ L ≤ (v3 + (1 : Int32)).toNatClampNeg
        · have hf := (if_pos c4).symm.trans hf
          cases hf
        have hf := (if_neg c4).symm.trans hf
        refine va_sld hx hb hX hbl hbA hS (show vp_in (v3 + (1 : Int32)) L from c4) dL_law_153 ?_
        refine lv_aload_n hx hb dL_law_154 rfl (lv_at hl 0 rfl) ?_
        refine lv_iload_n hx hb dL_law_155 rfl (lv_at hl 3 rfl) ?_
        refine lv_iconst (v := 2) hx hb dL_law_156 (by decide) ?_
        refine lv_iadd hx hb dL_law_157 ?_
        by_cases c5 : (v3 + (2 : Int32)) < 0 ∨ L ≤ (v3 + (2 : Int32)).toNatClampNeg
        · have hf := (if_pos c5).symm.trans hf
          cases hf
        have hf := (if_neg c5).symm.trans hf
        refine va_sld hx hb hX hbl hbA hS (show vp_in (v3 + (2 : Int32)) L from c5) dL_law_158 ?_
        obtain ⟨z6, hz_z6, hf⟩ := o_bind hf
        refine k_calli (va_runV (As := [.int (xs (v3 + (1 : Int32)).toNatClampNeg), .int (xs (v3 + (2 : Int32)).toNatClampNeg)]) (rest := []) ⟨hx, hb, hml, hown, hts⟩ (c_X10_weigh l D cI cZ th0 th1 th2 th3 th4 th5 th6 th7 th8 th9 wheel1 wheel2 wheel3 wheel4 H.size u_wheel (xs (v3 + (1 : Int32)).toNatClampNeg) (xs (v3 + (2 : Int32)).toNatClampNeg) z6 hz_z6) (cwV 2 hts gL_law_X10_weigh rfl rfl rfl ⟨rfl, hd_X10_weigh⟩ ⟨Nat.le_of_ble_eq_true rfl, Nat.le_of_ble_eq_true rfl⟩) (k_preV hK hP hD hS hA hE [0, 1, 2, 3, 4, 5] (by decide) rfl (ci := 7) rfl rfl) rfl rfl hl.1 rfl (lv_room (Nat.le_of_ble_eq_true rfl)) dL_law_159 ⟨Nat.le_of_ble_eq_true rfl, Nat.le_of_ble_eq_true rfl⟩) hP hD hS hA [0, 1, 2, 3, 4, 5] [some 0, some 1, some 2, some 3, some 4, some 5, none, none, none, none, none, none, none, none, none, none, none, none, none, none, none, none, none, none, none, none, none, none, none, none, none, none, none, none, none, none, none, none, none, none, none, none, none, none, none, none, none, none, none, none, none, none, none, none, none, none, none, none, none, none, none, none, none, none] 6 rfl (by decide) (by decide) rfl rfl (fun H locs hP hD hS => ?_)
        have hP : va_P D vwCl (ceX th0 th1 th2 th3 th4 th5 th6 th7 th8 th9 ++ (ceW cI cZ th1 wheel1 wheel2 wheel3 wheel4 z6.2 ++ (ceW cI cZ th2 trial1 trial2 trial3 trial4 u_trial ++ (ceP cI cZ th3 pad1 u_pad ++ (ceS cI cZ th4 sights1 sights2 u_sights ++ (ceT cI cZ th5 telling1 telling2 telling3 telling4 telling5 u_telling ++ (ceG cI cZ th6 seating1 seating2 seating3 seating4 seating5 seating6 u_seating ++ (ceU cI cZ th7 turns1 turns2 turns3 turns4 turns5 turns6 u_turns ++ (ceI cI cZ th8 firstImage1 firstImage2 firstImage3 firstImage4 firstImage5 firstImage6 firstImage7 firstImage8 u_firstImage ++ (ceI cI cZ th9 secondImage1 secondImage2 secondImage3 secondImage4 secondImage5 secondImage6 secondImage7 secondImage8 u_secondImage ++ (ceM cI cZ md0 md1 md2 md3 md4 md5 md6 md7 md8 md9 u_md))))))))))) H := hP
        have hD : va_D A (ceX th0 th1 th2 th3 th4 th5 th6 th7 th8 th9 ++ (ceW cI cZ th1 wheel1 wheel2 wheel3 wheel4 z6.2 ++ (ceW cI cZ th2 trial1 trial2 trial3 trial4 u_trial ++ (ceP cI cZ th3 pad1 u_pad ++ (ceS cI cZ th4 sights1 sights2 u_sights ++ (ceT cI cZ th5 telling1 telling2 telling3 telling4 telling5 u_telling ++ (ceG cI cZ th6 seating1 seating2 seating3 seating4 seating5 seating6 u_seating ++ (ceU cI cZ th7 turns1 turns2 turns3 turns4 turns5 turns6 u_turns ++ (ceI cI cZ th8 firstImage1 firstImage2 firstImage3 firstImage4 firstImage5 firstImage6 firstImage7 firstImage8 u_firstImage ++ (ceI cI cZ th9 secondImage1 secondImage2 secondImage3 secondImage4 secondImage5 secondImage6 secondImage7 secondImage8 u_secondImage ++ (ceM cI cZ md0 md1 md2 md3 md4 md5 md6 md7 md8 md9 u_md))))))))))) := hD
        refine lv_aload_n hx hb dL_law_162 rfl (lv_at hl 2 rfl) ?_
        refine lv_aload_n hx hb dL_law_163 rfl (lv_at hl 0 rfl) ?_
        refine lv_iload_n hx hb dL_law_164 rfl (lv_at hl 3 rfl) ?_
        refine lv_iconst (v := 1) hx hb dL_law_165 (by decide) ?_
        refine lv_iadd hx hb dL_law_166 ?_
        by_cases c7 : (v3 + (1 : Int32)) < 0 ∨ L ≤ (v3 + (1 : Int32)).toNatClampNeg
        · have hf := (if_pos c7).symm.trans hf
          cases hf
        have hf := (if_neg c7).symm.trans hf
        refine va_sld hx hb hX hbl hbA hS (show vp_in (v3 + (1 : Int32)) L from c7) dL_law_167 ?_
        refine lv_aload_n hx hb dL_law_168 rfl (lv_at hl 0 rfl) ?_
        refine lv_iload_n hx hb dL_law_169 rfl (lv_at hl 3 rfl) ?_
        refine lv_iconst (v := 2) hx hb dL_law_170 (by decide) ?_
        refine lv_iadd hx hb dL_law_171 ?_
        by_cases c8 : (v3 + (2 : Int32)) < 0 ∨ L ≤ (v3 + (2 : Int32)).toNatClampNeg
        · have hf := (if_pos c8).symm.trans hf
          cases hf
        have hf := (if_neg c8).symm.trans hf
        refine va_sld hx hb hX hbl hbA hS (show vp_in (v3 + (2 : Int32)) L from c8) dL_law_172 ?_
        obtain ⟨z9, hz_z9, hf⟩ := o_bind hf
        refine k_calli (va_runV (As := [.int (xs (v3 + (1 : Int32)).toNatClampNeg), .int (xs (v3 + (2 : Int32)).toNatClampNeg)]) (rest := [.int z6.1]) ⟨hx, hb, hml, hown, hts⟩ (c_X11_weigh l D cI cZ md0 md1 md2 md3 md4 md5 md6 md7 md8 md9 H.size u_md (xs (v3 + (1 : Int32)).toNatClampNeg) (xs (v3 + (2 : Int32)).toNatClampNeg) z9 hz_z9) (cwV 2 hts gL_law_X11_weigh rfl rfl rfl ⟨rfl, hd_X11_weigh⟩ ⟨Nat.le_of_ble_eq_true rfl, Nat.le_of_ble_eq_true rfl⟩) (k_preV hK hP hD hS hA hE [54, 55, 56, 57, 58, 59, 60, 61, 62, 63] (by decide) rfl (ci := 8) rfl rfl) rfl rfl hl.1 rfl (lv_room (Nat.le_of_ble_eq_true rfl)) dL_law_173 ⟨Nat.le_of_ble_eq_true rfl, Nat.le_of_ble_eq_true rfl⟩) hP hD hS hA [54, 55, 56, 57, 58, 59, 60, 61, 62, 63] [none, none, none, none, none, none, none, none, none, none, none, none, none, none, none, none, none, none, none, none, none, none, none, none, none, none, none, none, none, none, none, none, none, none, none, none, none, none, none, none, none, none, none, none, none, none, none, none, none, none, none, none, none, none, some 0, some 1, some 2, some 3, some 4, some 5, some 6, some 7, some 8, some 9] 10 rfl (by decide) (by decide) rfl rfl (fun H locs hP hD hS => ?_)
        have hP : va_P D vwCl (ceX th0 th1 th2 th3 th4 th5 th6 th7 th8 th9 ++ (ceW cI cZ th1 wheel1 wheel2 wheel3 wheel4 z6.2 ++ (ceW cI cZ th2 trial1 trial2 trial3 trial4 u_trial ++ (ceP cI cZ th3 pad1 u_pad ++ (ceS cI cZ th4 sights1 sights2 u_sights ++ (ceT cI cZ th5 telling1 telling2 telling3 telling4 telling5 u_telling ++ (ceG cI cZ th6 seating1 seating2 seating3 seating4 seating5 seating6 u_seating ++ (ceU cI cZ th7 turns1 turns2 turns3 turns4 turns5 turns6 u_turns ++ (ceI cI cZ th8 firstImage1 firstImage2 firstImage3 firstImage4 firstImage5 firstImage6 firstImage7 firstImage8 u_firstImage ++ (ceI cI cZ th9 secondImage1 secondImage2 secondImage3 secondImage4 secondImage5 secondImage6 secondImage7 secondImage8 u_secondImage ++ (ceM cI cZ md0 md1 md2 md3 md4 md5 md6 md7 md8 md9 z9.2))))))))))) H := hP
        have hD : va_D A (ceX th0 th1 th2 th3 th4 th5 th6 th7 th8 th9 ++ (ceW cI cZ th1 wheel1 wheel2 wheel3 wheel4 z6.2 ++ (ceW cI cZ th2 trial1 trial2 trial3 trial4 u_trial ++ (ceP cI cZ th3 pad1 u_pad ++ (ceS cI cZ th4 sights1 sights2 u_sights ++ (ceT cI cZ th5 telling1 telling2 telling3 telling4 telling5 u_telling ++ (ceG cI cZ th6 seating1 seating2 seating3 seating4 seating5 seating6 u_seating ++ (ceU cI cZ th7 turns1 turns2 turns3 turns4 turns5 turns6 u_turns ++ (ceI cI cZ th8 firstImage1 firstImage2 firstImage3 firstImage4 firstImage5 firstImage6 firstImage7 firstImage8 u_firstImage ++ (ceI cI cZ th9 secondImage1 secondImage2 secondImage3 secondImage4 secondImage5 secondImage6 secondImage7 secondImage8 u_secondImage ++ (ceM cI cZ md0 md1 md2 md3 md4 md5 md6 md7 md8 md9 z9.2))))))))))) := hD
        refine lv_icmp_eq (tgt := 764) hx hb dL_law_176 (by decide) (fun c10 => ?_) (fun c10 => ?_)
        · have hf := (if_pos c10).symm.trans hf
          refine lv_iinc (v := (v3 + (4 : Int32))) (lv' := [(3, .int (v3 + (4 : Int32))), (0, .ref b), (1, .ref th0), (2, .ref md0)]) hx hb dL_law_764 hl (k := 3) rfl rfl (by decide) rfl (fun ls hl => ?_)
          refine lv_goto (tgt := 18) hx hb dL_law_767 (by decide) ?_
          exact ih (v3 + (4 : Int32)) z6.2 u_trial u_pad u_sights u_telling u_seating u_turns u_firstImage u_secondImage z9.2 _ _ ls (lv_sub hl [1, 2, 3, 0] rfl) hP hD hS hf
        · have hf := (if_neg c10).symm.trans hf
          refine lv_iconst (v := 0) hx hb dL_law_179 (by decide) ?_
          exact absurd (Option.some.inj hf) (by decide)
      have hf := (if_neg c3).symm.trans hf
      by_cases c11 : ((xs v3.toNatClampNeg) &&& (31 : Int32)) = 1
      · have hf := (if_pos c11).symm.trans hf
        refine lv_tableIn hx hb dL_law_32 (by rw [c11]; decide) (by rw [c11]; decide) (off := 149) (tgt := 181) (by rw [c11]; rfl) (by decide) ?_
        refine lv_aload_n hx hb dL_law_181 rfl (lv_at hl 1 rfl) ?_
        refine lv_aload_n hx hb dL_law_182 rfl (lv_at hl 0 rfl) ?_
        refine lv_iload_n hx hb dL_law_183 rfl (lv_at hl 3 rfl) ?_
        refine lv_iconst (v := 1) hx hb dL_law_184 (by decide) ?_
        refine lv_iadd hx hb dL_law_185 ?_
        by_cases c12 : (v3 + (1 : Int32)) < 0 ∨ L ≤ (v3 + (1 : Int32)).toNatClampNeg
        · have hf := (if_pos c12).symm.trans hf
          cases hf
        have hf := (if_neg c12).symm.trans hf
        refine va_sld hx hb hX hbl hbA hS (show vp_in (v3 + (1 : Int32)) L from c12) dL_law_186 ?_
        obtain ⟨z13, hz_z13, hf⟩ := o_bind hf
        refine k_calli (va_runV (As := [.int (xs (v3 + (1 : Int32)).toNatClampNeg)]) (rest := []) ⟨hx, hb, hml, hown, hts⟩ (c_X10_drag l D cI cZ th0 th1 th2 th3 th4 th5 th6 th7 th8 th9 wheel1 wheel2 wheel3 wheel4 H.size u_wheel (xs (v3 + (1 : Int32)).toNatClampNeg) z13 hz_z13) (cwV 1 hts gL_law_X10_drag rfl rfl rfl ⟨rfl, hd_X10_drag⟩ ⟨Nat.le_of_ble_eq_true rfl, Nat.le_of_ble_eq_true rfl⟩) (k_preV hK hP hD hS hA hE [0, 1, 2, 3, 4, 5] (by decide) rfl (ci := 7) rfl rfl) rfl rfl hl.1 rfl (lv_room (Nat.le_of_ble_eq_true rfl)) dL_law_187 ⟨Nat.le_of_ble_eq_true rfl, Nat.le_of_ble_eq_true rfl⟩) hP hD hS hA [0, 1, 2, 3, 4, 5] [some 0, some 1, some 2, some 3, some 4, some 5, none, none, none, none, none, none, none, none, none, none, none, none, none, none, none, none, none, none, none, none, none, none, none, none, none, none, none, none, none, none, none, none, none, none, none, none, none, none, none, none, none, none, none, none, none, none, none, none, none, none, none, none, none, none, none, none, none, none] 6 rfl (by decide) (by decide) rfl rfl (fun H locs hP hD hS => ?_)
        have hP : va_P D vwCl (ceX th0 th1 th2 th3 th4 th5 th6 th7 th8 th9 ++ (ceW cI cZ th1 wheel1 wheel2 wheel3 wheel4 z13.2 ++ (ceW cI cZ th2 trial1 trial2 trial3 trial4 u_trial ++ (ceP cI cZ th3 pad1 u_pad ++ (ceS cI cZ th4 sights1 sights2 u_sights ++ (ceT cI cZ th5 telling1 telling2 telling3 telling4 telling5 u_telling ++ (ceG cI cZ th6 seating1 seating2 seating3 seating4 seating5 seating6 u_seating ++ (ceU cI cZ th7 turns1 turns2 turns3 turns4 turns5 turns6 u_turns ++ (ceI cI cZ th8 firstImage1 firstImage2 firstImage3 firstImage4 firstImage5 firstImage6 firstImage7 firstImage8 u_firstImage ++ (ceI cI cZ th9 secondImage1 secondImage2 secondImage3 secondImage4 secondImage5 secondImage6 secondImage7 secondImage8 u_secondImage ++ (ceM cI cZ md0 md1 md2 md3 md4 md5 md6 md7 md8 md9 u_md))))))))))) H := hP
        have hD : va_D A (ceX th0 th1 th2 th3 th4 th5 th6 th7 th8 th9 ++ (ceW cI cZ th1 wheel1 wheel2 wheel3 wheel4 z13.2 ++ (ceW cI cZ th2 trial1 trial2 trial3 trial4 u_trial ++ (ceP cI cZ th3 pad1 u_pad ++ (ceS cI cZ th4 sights1 sights2 u_sights ++ (ceT cI cZ th5 telling1 telling2 telling3 telling4 telling5 u_telling ++ (ceG cI cZ th6 seating1 seating2 seating3 seating4 seating5 seating6 u_seating ++ (ceU cI cZ th7 turns1 turns2 turns3 turns4 turns5 turns6 u_turns ++ (ceI cI cZ th8 firstImage1 firstImage2 firstImage3 firstImage4 firstImage5 firstImage6 firstImage7 firstImage8 u_firstImage ++ (ceI cI cZ th9 secondImage1 secondImage2 secondImage3 secondImage4 secondImage5 secondImage6 secondImage7 secondImage8 u_secondImage ++ (ceM cI cZ md0 md1 md2 md3 md4 md5 md6 md7 md8 md9 u_md))))))))))) := hD
        refine lv_aload_n hx hb dL_law_190 rfl (lv_at hl 2 rfl) ?_
        refine lv_aload_n hx hb dL_law_191 rfl (lv_at hl 0 rfl) ?_
        refine lv_iload_n hx hb dL_law_192 rfl (lv_at hl 3 rfl) ?_
        refine lv_iconst (v := 1) hx hb dL_law_193 (by decide) ?_
        refine lv_iadd hx hb dL_law_194 ?_
        by_cases c14 : (v3 + (1 : Int32)) < 0 ∨ L ≤ (v3 + (1 : Int32)).toNatClampNeg
        · have hf := (if_pos c14).symm.trans hf
          cases hf
        have hf := (if_neg c14).symm.trans hf
        refine va_sld hx hb hX hbl hbA hS (show vp_in (v3 + (1 : Int32)) L from c14) dL_law_195 ?_
        obtain ⟨z15, hz_z15, hf⟩ := o_bind hf
        refine k_calli (va_runV (As := [.int (xs (v3 + (1 : Int32)).toNatClampNeg)]) (rest := [.int z13.1]) ⟨hx, hb, hml, hown, hts⟩ (c_X11_drag l D cI cZ md0 md1 md2 md3 md4 md5 md6 md7 md8 md9 H.size u_md (xs (v3 + (1 : Int32)).toNatClampNeg) z15 hz_z15) (cwV 1 hts gL_law_X11_drag rfl rfl rfl ⟨rfl, hd_X11_drag⟩ ⟨Nat.le_of_ble_eq_true rfl, Nat.le_of_ble_eq_true rfl⟩) (k_preV hK hP hD hS hA hE [54, 55, 56, 57, 58, 59, 60, 61, 62, 63] (by decide) rfl (ci := 8) rfl rfl) rfl rfl hl.1 rfl (lv_room (Nat.le_of_ble_eq_true rfl)) dL_law_196 ⟨Nat.le_of_ble_eq_true rfl, Nat.le_of_ble_eq_true rfl⟩) hP hD hS hA [54, 55, 56, 57, 58, 59, 60, 61, 62, 63] [none, none, none, none, none, none, none, none, none, none, none, none, none, none, none, none, none, none, none, none, none, none, none, none, none, none, none, none, none, none, none, none, none, none, none, none, none, none, none, none, none, none, none, none, none, none, none, none, none, none, none, none, none, none, some 0, some 1, some 2, some 3, some 4, some 5, some 6, some 7, some 8, some 9] 10 rfl (by decide) (by decide) rfl rfl (fun H locs hP hD hS => ?_)
        have hP : va_P D vwCl (ceX th0 th1 th2 th3 th4 th5 th6 th7 th8 th9 ++ (ceW cI cZ th1 wheel1 wheel2 wheel3 wheel4 z13.2 ++ (ceW cI cZ th2 trial1 trial2 trial3 trial4 u_trial ++ (ceP cI cZ th3 pad1 u_pad ++ (ceS cI cZ th4 sights1 sights2 u_sights ++ (ceT cI cZ th5 telling1 telling2 telling3 telling4 telling5 u_telling ++ (ceG cI cZ th6 seating1 seating2 seating3 seating4 seating5 seating6 u_seating ++ (ceU cI cZ th7 turns1 turns2 turns3 turns4 turns5 turns6 u_turns ++ (ceI cI cZ th8 firstImage1 firstImage2 firstImage3 firstImage4 firstImage5 firstImage6 firstImage7 firstImage8 u_firstImage ++ (ceI cI cZ th9 secondImage1 secondImage2 secondImage3 secondImage4 secondImage5 secondImage6 secondImage7 secondImage8 u_secondImage ++ (ceM cI cZ md0 md1 md2 md3 md4 md5 md6 md7 md8 md9 z15.2))))))))))) H := hP
        have hD : va_D A (ceX th0 th1 th2 th3 th4 th5 th6 th7 th8 th9 ++ (ceW cI cZ th1 wheel1 wheel2 wheel3 wheel4 z13.2 ++ (ceW cI cZ th2 trial1 trial2 trial3 trial4 u_trial ++ (ceP cI cZ th3 pad1 u_pad ++ (ceS cI cZ th4 sights1 sights2 u_sights ++ (ceT cI cZ th5 telling1 telling2 telling3 telling4 telling5 u_telling ++ (ceG cI cZ th6 seating1 seating2 seating3 seating4 seating5 seating6 u_seating ++ (ceU cI cZ th7 turns1 turns2 turns3 turns4 turns5 turns6 u_turns ++ (ceI cI cZ th8 firstImage1 firstImage2 firstImage3 firstImage4 firstImage5 firstImage6 firstImage7 firstImage8 u_firstImage ++ (ceI cI cZ th9 secondImage1 secondImage2 secondImage3 secondImage4 secondImage5 secondImage6 secondImage7 secondImage8 u_secondImage ++ (ceM cI cZ md0 md1 md2 md3 md4 md5 md6 md7 md8 md9 z15.2))))))))))) := hD
        refine lv_icmp_eq (tgt := 764) hx hb dL_law_199 (by decide) (fun c16 => ?_) (fun c16 => ?_)
        · have hf := (if_pos c16).symm.trans hf
          refine lv_iinc (v := (v3 + (4 : Int32))) (lv' := [(3, .int (v3 + (4 : Int32))), (0, .ref b), (1, .ref th0), (2, .ref md0)]) hx hb dL_law_764 hl (k := 3) rfl rfl (by decide) rfl (fun ls hl => ?_)
          refine lv_goto (tgt := 18) hx hb dL_law_767 (by decide) ?_
          exact ih (v3 + (4 : Int32)) z13.2 u_trial u_pad u_sights u_telling u_seating u_turns u_firstImage u_secondImage z15.2 _ _ ls (lv_sub hl [1, 2, 3, 0] rfl) hP hD hS hf
        · have hf := (if_neg c16).symm.trans hf
          refine lv_iconst (v := 0) hx hb dL_law_202 (by decide) ?_
          exact absurd (Option.some.inj hf) (by decide)
      have hf := (if_neg c11).symm.trans hf
      by_cases c17 : ((xs v3.toNatClampNeg) &&& (31 : Int32)) = 2
      · have hf := (if_pos c17).symm.trans hf
        refine lv_tableIn hx hb dL_law_32 (by rw [c17]; decide) (by rw [c17]; decide) (off := 172) (tgt := 204) (by rw [c17]; rfl) (by decide) ?_
        refine lv_aload_n hx hb dL_law_204 rfl (lv_at hl 1 rfl) ?_
        refine lv_aload_n hx hb dL_law_205 rfl (lv_at hl 0 rfl) ?_
        refine lv_iload_n hx hb dL_law_206 rfl (lv_at hl 3 rfl) ?_
        refine lv_iconst (v := 1) hx hb dL_law_207 (by decide) ?_
        refine lv_iadd hx hb dL_law_208 ?_
        by_cases c18 : (v3 + (1 : Int32)) < 0 ∨ L ≤ (v3 + (1 : Int32)).toNatClampNeg
        · have hf := (if_pos c18).symm.trans hf
          cases hf
        have hf := (if_neg c18).symm.trans hf
        refine va_sld hx hb hX hbl hbA hS (show vp_in (v3 + (1 : Int32)) L from c18) dL_law_209 ?_
        obtain ⟨z19, hz_z19, hf⟩ := o_bind hf
        refine k_calli (va_runV (As := [.int (xs (v3 + (1 : Int32)).toNatClampNeg)]) (rest := []) ⟨hx, hb, hml, hown, hts⟩ (c_X10_say l D cI cZ th0 th1 th2 th3 th4 th5 th6 th7 th8 th9 pad1 H.size u_pad (xs (v3 + (1 : Int32)).toNatClampNeg) z19 hz_z19) (cwV 1 hts gL_law_X10_say rfl rfl rfl ⟨rfl, hd_X10_say⟩ ⟨Nat.le_of_ble_eq_true rfl, Nat.le_of_ble_eq_true rfl⟩) (k_preV hK hP hD hS hA hE [0, 11, 12] (by decide) rfl (ci := 7) rfl rfl) rfl rfl hl.1 rfl (lv_room (Nat.le_of_ble_eq_true rfl)) dL_law_210 ⟨Nat.le_of_ble_eq_true rfl, Nat.le_of_ble_eq_true rfl⟩) hP hD hS hA [0, 11, 12] [some 0, none, none, none, none, none, none, none, none, none, none, some 1, some 2, none, none, none, none, none, none, none, none, none, none, none, none, none, none, none, none, none, none, none, none, none, none, none, none, none, none, none, none, none, none, none, none, none, none, none, none, none, none, none, none, none, none, none, none, none, none, none, none, none, none, none] 3 rfl (by decide) (by decide) rfl rfl (fun H locs hP hD hS => ?_)
        have hP : va_P D vwCl (ceX th0 th1 th2 th3 th4 th5 th6 th7 th8 th9 ++ (ceW cI cZ th1 wheel1 wheel2 wheel3 wheel4 u_wheel ++ (ceW cI cZ th2 trial1 trial2 trial3 trial4 u_trial ++ (ceP cI cZ th3 pad1 z19.2 ++ (ceS cI cZ th4 sights1 sights2 u_sights ++ (ceT cI cZ th5 telling1 telling2 telling3 telling4 telling5 u_telling ++ (ceG cI cZ th6 seating1 seating2 seating3 seating4 seating5 seating6 u_seating ++ (ceU cI cZ th7 turns1 turns2 turns3 turns4 turns5 turns6 u_turns ++ (ceI cI cZ th8 firstImage1 firstImage2 firstImage3 firstImage4 firstImage5 firstImage6 firstImage7 firstImage8 u_firstImage ++ (ceI cI cZ th9 secondImage1 secondImage2 secondImage3 secondImage4 secondImage5 secondImage6 secondImage7 secondImage8 u_secondImage ++ (ceM cI cZ md0 md1 md2 md3 md4 md5 md6 md7 md8 md9 u_md))))))))))) H := hP
        have hD : va_D A (ceX th0 th1 th2 th3 th4 th5 th6 th7 th8 th9 ++ (ceW cI cZ th1 wheel1 wheel2 wheel3 wheel4 u_wheel ++ (ceW cI cZ th2 trial1 trial2 trial3 trial4 u_trial ++ (ceP cI cZ th3 pad1 z19.2 ++ (ceS cI cZ th4 sights1 sights2 u_sights ++ (ceT cI cZ th5 telling1 telling2 telling3 telling4 telling5 u_telling ++ (ceG cI cZ th6 seating1 seating2 seating3 seating4 seating5 seating6 u_seating ++ (ceU cI cZ th7 turns1 turns2 turns3 turns4 turns5 turns6 u_turns ++ (ceI cI cZ th8 firstImage1 firstImage2 firstImage3 firstImage4 firstImage5 firstImage6 firstImage7 firstImage8 u_firstImage ++ (ceI cI cZ th9 secondImage1 secondImage2 secondImage3 secondImage4 secondImage5 secondImage6 secondImage7 secondImage8 u_secondImage ++ (ceM cI cZ md0 md1 md2 md3 md4 md5 md6 md7 md8 md9 u_md))))))))))) := hD
        refine lv_aload_n hx hb dL_law_213 rfl (lv_at hl 2 rfl) ?_
        refine lv_aload_n hx hb dL_law_214 rfl (lv_at hl 0 rfl) ?_
        refine lv_iload_n hx hb dL_law_215 rfl (lv_at hl 3 rfl) ?_
        refine lv_iconst (v := 1) hx hb dL_law_216 (by decide) ?_
        refine lv_iadd hx hb dL_law_217 ?_
        by_cases c20 : (v3 + (1 : Int32)) < 0 ∨ L ≤ (v3 + (1 : Int32)).toNatClampNeg
        · have hf := (if_pos c20).symm.trans hf
          cases hf
        have hf := (if_neg c20).symm.trans hf
        refine va_sld hx hb hX hbl hbA hS (show vp_in (v3 + (1 : Int32)) L from c20) dL_law_218 ?_
        obtain ⟨z21, hz_z21, hf⟩ := o_bind hf
        refine k_calli (va_runV (As := [.int (xs (v3 + (1 : Int32)).toNatClampNeg)]) (rest := [.int z19.1]) ⟨hx, hb, hml, hown, hts⟩ (c_X11_say l D cI cZ md0 md1 md2 md3 md4 md5 md6 md7 md8 md9 H.size u_md (xs (v3 + (1 : Int32)).toNatClampNeg) z21 hz_z21) (cwV 1 hts gL_law_X11_say rfl rfl rfl ⟨rfl, hd_X11_say⟩ ⟨Nat.le_of_ble_eq_true rfl, Nat.le_of_ble_eq_true rfl⟩) (k_preV hK hP hD hS hA hE [54, 55, 56, 57, 58, 59, 60, 61, 62, 63] (by decide) rfl (ci := 8) rfl rfl) rfl rfl hl.1 rfl (lv_room (Nat.le_of_ble_eq_true rfl)) dL_law_219 ⟨Nat.le_of_ble_eq_true rfl, Nat.le_of_ble_eq_true rfl⟩) hP hD hS hA [54, 55, 56, 57, 58, 59, 60, 61, 62, 63] [none, none, none, none, none, none, none, none, none, none, none, none, none, none, none, none, none, none, none, none, none, none, none, none, none, none, none, none, none, none, none, none, none, none, none, none, none, none, none, none, none, none, none, none, none, none, none, none, none, none, none, none, none, none, some 0, some 1, some 2, some 3, some 4, some 5, some 6, some 7, some 8, some 9] 10 rfl (by decide) (by decide) rfl rfl (fun H locs hP hD hS => ?_)
        have hP : va_P D vwCl (ceX th0 th1 th2 th3 th4 th5 th6 th7 th8 th9 ++ (ceW cI cZ th1 wheel1 wheel2 wheel3 wheel4 u_wheel ++ (ceW cI cZ th2 trial1 trial2 trial3 trial4 u_trial ++ (ceP cI cZ th3 pad1 z19.2 ++ (ceS cI cZ th4 sights1 sights2 u_sights ++ (ceT cI cZ th5 telling1 telling2 telling3 telling4 telling5 u_telling ++ (ceG cI cZ th6 seating1 seating2 seating3 seating4 seating5 seating6 u_seating ++ (ceU cI cZ th7 turns1 turns2 turns3 turns4 turns5 turns6 u_turns ++ (ceI cI cZ th8 firstImage1 firstImage2 firstImage3 firstImage4 firstImage5 firstImage6 firstImage7 firstImage8 u_firstImage ++ (ceI cI cZ th9 secondImage1 secondImage2 secondImage3 secondImage4 secondImage5 secondImage6 secondImage7 secondImage8 u_secondImage ++ (ceM cI cZ md0 md1 md2 md3 md4 md5 md6 md7 md8 md9 z21.2))))))))))) H := hP
        have hD : va_D A (ceX th0 th1 th2 th3 th4 th5 th6 th7 th8 th9 ++ (ceW cI cZ th1 wheel1 wheel2 wheel3 wheel4 u_wheel ++ (ceW cI cZ th2 trial1 trial2 trial3 trial4 u_trial ++ (ceP cI cZ th3 pad1 z19.2 ++ (ceS cI cZ th4 sights1 sights2 u_sights ++ (ceT cI cZ th5 telling1 telling2 telling3 telling4 telling5 u_telling ++ (ceG cI cZ th6 seating1 seating2 seating3 seating4 seating5 seating6 u_seating ++ (ceU cI cZ th7 turns1 turns2 turns3 turns4 turns5 turns6 u_turns ++ (ceI cI cZ th8 firstImage1 firstImage2 firstImage3 firstImage4 firstImage5 firstImage6 firstImage7 firstImage8 u_firstImage ++ (ceI cI cZ th9 secondImage1 secondImage2 secondImage3 secondImage4 secondImage5 secondImage6 secondImage7 secondImage8 u_secondImage ++ (ceM cI cZ md0 md1 md2 md3 md4 md5 md6 md7 md8 md9 z21.2))))))))))) := hD
        refine lv_icmp_eq (tgt := 764) hx hb dL_law_222 (by decide) (fun c22 => ?_) (fun c22 => ?_)
        · have hf := (if_pos c22).symm.trans hf
          refine lv_iinc (v := (v3 + (4 : Int32))) (lv' := [(3, .int (v3 + (4 : Int32))), (0, .ref b), (1, .ref th0), (2, .ref md0)]) hx hb dL_law_764 hl (k := 3) rfl rfl (by decide) rfl (fun ls hl => ?_)
          refine lv_goto (tgt := 18) hx hb dL_law_767 (by decide) ?_
          exact ih (v3 + (4 : Int32)) u_wheel u_trial z19.2 u_sights u_telling u_seating u_turns u_firstImage u_secondImage z21.2 _ _ ls (lv_sub hl [1, 2, 3, 0] rfl) hP hD hS hf
        · have hf := (if_neg c22).symm.trans hf
          refine lv_iconst (v := 0) hx hb dL_law_225 (by decide) ?_
          exact absurd (Option.some.inj hf) (by decide)
      have hf := (if_neg c17).symm.trans hf
      by_cases c23 : ((xs v3.toNatClampNeg) &&& (31 : Int32)) = 3
      · have hf := (if_pos c23).symm.trans hf
        refine lv_tableIn hx hb dL_law_32 (by rw [c23]; decide) (by rw [c23]; decide) (off := 195) (tgt := 227) (by rw [c23]; rfl) (by decide) ?_
        refine lv_aload_n hx hb dL_law_227 rfl (lv_at hl 1 rfl) ?_
        obtain ⟨z24, hz_z24, hf⟩ := o_bind hf
        refine k_calli (va_runV (As := []) (rest := []) ⟨hx, hb, hml, hown, hts⟩ (c_X10_wipe l D cI cZ th0 th1 th2 th3 th4 th5 th6 th7 th8 th9 pad1 H.size u_pad z24 hz_z24) (cwV 0 hts gL_law_X10_wipe rfl rfl rfl ⟨rfl, hd_X10_wipe⟩ ⟨Nat.le_of_ble_eq_true rfl, Nat.le_of_ble_eq_true rfl⟩) (k_preV hK hP hD hS hA hE [0, 11, 12] (by decide) rfl (ci := 7) rfl rfl) rfl rfl hl.1 rfl (lv_room (Nat.le_of_ble_eq_true rfl)) dL_law_228 ⟨Nat.le_of_ble_eq_true rfl, Nat.le_of_ble_eq_true rfl⟩) hP hD hS hA [0, 11, 12] [some 0, none, none, none, none, none, none, none, none, none, none, some 1, some 2, none, none, none, none, none, none, none, none, none, none, none, none, none, none, none, none, none, none, none, none, none, none, none, none, none, none, none, none, none, none, none, none, none, none, none, none, none, none, none, none, none, none, none, none, none, none, none, none, none, none, none] 3 rfl (by decide) (by decide) rfl rfl (fun H locs hP hD hS => ?_)
        have hP : va_P D vwCl (ceX th0 th1 th2 th3 th4 th5 th6 th7 th8 th9 ++ (ceW cI cZ th1 wheel1 wheel2 wheel3 wheel4 u_wheel ++ (ceW cI cZ th2 trial1 trial2 trial3 trial4 u_trial ++ (ceP cI cZ th3 pad1 z24.2 ++ (ceS cI cZ th4 sights1 sights2 u_sights ++ (ceT cI cZ th5 telling1 telling2 telling3 telling4 telling5 u_telling ++ (ceG cI cZ th6 seating1 seating2 seating3 seating4 seating5 seating6 u_seating ++ (ceU cI cZ th7 turns1 turns2 turns3 turns4 turns5 turns6 u_turns ++ (ceI cI cZ th8 firstImage1 firstImage2 firstImage3 firstImage4 firstImage5 firstImage6 firstImage7 firstImage8 u_firstImage ++ (ceI cI cZ th9 secondImage1 secondImage2 secondImage3 secondImage4 secondImage5 secondImage6 secondImage7 secondImage8 u_secondImage ++ (ceM cI cZ md0 md1 md2 md3 md4 md5 md6 md7 md8 md9 u_md))))))))))) H := hP
        have hD : va_D A (ceX th0 th1 th2 th3 th4 th5 th6 th7 th8 th9 ++ (ceW cI cZ th1 wheel1 wheel2 wheel3 wheel4 u_wheel ++ (ceW cI cZ th2 trial1 trial2 trial3 trial4 u_trial ++ (ceP cI cZ th3 pad1 z24.2 ++ (ceS cI cZ th4 sights1 sights2 u_sights ++ (ceT cI cZ th5 telling1 telling2 telling3 telling4 telling5 u_telling ++ (ceG cI cZ th6 seating1 seating2 seating3 seating4 seating5 seating6 u_seating ++ (ceU cI cZ th7 turns1 turns2 turns3 turns4 turns5 turns6 u_turns ++ (ceI cI cZ th8 firstImage1 firstImage2 firstImage3 firstImage4 firstImage5 firstImage6 firstImage7 firstImage8 u_firstImage ++ (ceI cI cZ th9 secondImage1 secondImage2 secondImage3 secondImage4 secondImage5 secondImage6 secondImage7 secondImage8 u_secondImage ++ (ceM cI cZ md0 md1 md2 md3 md4 md5 md6 md7 md8 md9 u_md))))))))))) := hD
        refine lv_aload_n hx hb dL_law_231 rfl (lv_at hl 2 rfl) ?_
        obtain ⟨z25, hz_z25, hf⟩ := o_bind hf
        refine k_calli (va_runV (As := []) (rest := [.int z24.1]) ⟨hx, hb, hml, hown, hts⟩ (c_X11_wipe l D cI cZ md0 md1 md2 md3 md4 md5 md6 md7 md8 md9 H.size u_md z25 hz_z25) (cwV 0 hts gL_law_X11_wipe rfl rfl rfl ⟨rfl, hd_X11_wipe⟩ ⟨Nat.le_of_ble_eq_true rfl, Nat.le_of_ble_eq_true rfl⟩) (k_preV hK hP hD hS hA hE [54, 55, 56, 57, 58, 59, 60, 61, 62, 63] (by decide) rfl (ci := 8) rfl rfl) rfl rfl hl.1 rfl (lv_room (Nat.le_of_ble_eq_true rfl)) dL_law_232 ⟨Nat.le_of_ble_eq_true rfl, Nat.le_of_ble_eq_true rfl⟩) hP hD hS hA [54, 55, 56, 57, 58, 59, 60, 61, 62, 63] [none, none, none, none, none, none, none, none, none, none, none, none, none, none, none, none, none, none, none, none, none, none, none, none, none, none, none, none, none, none, none, none, none, none, none, none, none, none, none, none, none, none, none, none, none, none, none, none, none, none, none, none, none, none, some 0, some 1, some 2, some 3, some 4, some 5, some 6, some 7, some 8, some 9] 10 rfl (by decide) (by decide) rfl rfl (fun H locs hP hD hS => ?_)
        have hP : va_P D vwCl (ceX th0 th1 th2 th3 th4 th5 th6 th7 th8 th9 ++ (ceW cI cZ th1 wheel1 wheel2 wheel3 wheel4 u_wheel ++ (ceW cI cZ th2 trial1 trial2 trial3 trial4 u_trial ++ (ceP cI cZ th3 pad1 z24.2 ++ (ceS cI cZ th4 sights1 sights2 u_sights ++ (ceT cI cZ th5 telling1 telling2 telling3 telling4 telling5 u_telling ++ (ceG cI cZ th6 seating1 seating2 seating3 seating4 seating5 seating6 u_seating ++ (ceU cI cZ th7 turns1 turns2 turns3 turns4 turns5 turns6 u_turns ++ (ceI cI cZ th8 firstImage1 firstImage2 firstImage3 firstImage4 firstImage5 firstImage6 firstImage7 firstImage8 u_firstImage ++ (ceI cI cZ th9 secondImage1 secondImage2 secondImage3 secondImage4 secondImage5 secondImage6 secondImage7 secondImage8 u_secondImage ++ (ceM cI cZ md0 md1 md2 md3 md4 md5 md6 md7 md8 md9 z25.2))))))))))) H := hP
        have hD : va_D A (ceX th0 th1 th2 th3 th4 th5 th6 th7 th8 th9 ++ (ceW cI cZ th1 wheel1 wheel2 wheel3 wheel4 u_wheel ++ (ceW cI cZ th2 trial1 trial2 trial3 trial4 u_trial ++ (ceP cI cZ th3 pad1 z24.2 ++ (ceS cI cZ th4 sights1 sights2 u_sights ++ (ceT cI cZ th5 telling1 telling2 telling3 telling4 telling5 u_telling ++ (ceG cI cZ th6 seating1 seating2 seating3 seating4 seating5 seating6 u_seating ++ (ceU cI cZ th7 turns1 turns2 turns3 turns4 turns5 turns6 u_turns ++ (ceI cI cZ th8 firstImage1 firstImage2 firstImage3 firstImage4 firstImage5 firstImage6 firstImage7 firstImage8 u_firstImage ++ (ceI cI cZ th9 secondImage1 secondImage2 secondImage3 secondImage4 secondImage5 secondImage6 secondImage7 secondImage8 u_secondImage ++ (ceM cI cZ md0 md1 md2 md3 md4 md5 md6 md7 md8 md9 z25.2))))))))))) := hD
        refine lv_icmp_eq (tgt := 764) hx hb dL_law_235 (by decide) (fun c26 => ?_) (fun c26 => ?_)
        · have hf := (if_pos c26).symm.trans hf
          refine lv_iinc (v := (v3 + (4 : Int32))) (lv' := [(3, .int (v3 + (4 : Int32))), (0, .ref b), (1, .ref th0), (2, .ref md0)]) hx hb dL_law_764 hl (k := 3) rfl rfl (by decide) rfl (fun ls hl => ?_)
          refine lv_goto (tgt := 18) hx hb dL_law_767 (by decide) ?_
          exact ih (v3 + (4 : Int32)) u_wheel u_trial z24.2 u_sights u_telling u_seating u_turns u_firstImage u_secondImage z25.2 _ _ ls (lv_sub hl [1, 2, 3, 0] rfl) hP hD hS hf
        · have hf := (if_neg c26).symm.trans hf
          refine lv_iconst (v := 0) hx hb dL_law_238 (by decide) ?_
          exact absurd (Option.some.inj hf) (by decide)
      have hf := (if_neg c23).symm.trans hf
      by_cases c27 : ((xs v3.toNatClampNeg) &&& (31 : Int32)) = 4
      · have hf := (if_pos c27).symm.trans hf
        refine lv_tableIn hx hb dL_law_32 (by rw [c27]; decide) (by rw [c27]; decide) (off := 208) (tgt := 240) (by rw [c27]; rfl) (by decide) ?_
        refine lv_aload_n hx hb dL_law_240 rfl (lv_at hl 1 rfl) ?_
        obtain ⟨z28, hz_z28, hf⟩ := o_bind hf
        refine k_calli (va_runV (As := []) (rest := []) ⟨hx, hb, hml, hown, hts⟩ (c_X10_fault l D cI cZ th0 th1 th2 th3 th4 th5 th6 th7 th8 th9 pad1 H.size u_pad z28 hz_z28) (cwV 0 hts gL_law_X10_fault rfl rfl rfl ⟨rfl, hd_X10_fault⟩ ⟨Nat.le_of_ble_eq_true rfl, Nat.le_of_ble_eq_true rfl⟩) (k_preV hK hP hD hS hA hE [0, 11, 12] (by decide) rfl (ci := 7) rfl rfl) rfl rfl hl.1 rfl (lv_room (Nat.le_of_ble_eq_true rfl)) dL_law_241 ⟨Nat.le_of_ble_eq_true rfl, Nat.le_of_ble_eq_true rfl⟩) hP hD hS hA [0, 11, 12] [some 0, none, none, none, none, none, none, none, none, none, none, some 1, some 2, none, none, none, none, none, none, none, none, none, none, none, none, none, none, none, none, none, none, none, none, none, none, none, none, none, none, none, none, none, none, none, none, none, none, none, none, none, none, none, none, none, none, none, none, none, none, none, none, none, none, none] 3 rfl (by decide) (by decide) rfl rfl (fun H locs hP hD hS => ?_)
        have hP : va_P D vwCl (ceX th0 th1 th2 th3 th4 th5 th6 th7 th8 th9 ++ (ceW cI cZ th1 wheel1 wheel2 wheel3 wheel4 u_wheel ++ (ceW cI cZ th2 trial1 trial2 trial3 trial4 u_trial ++ (ceP cI cZ th3 pad1 u_pad ++ (ceS cI cZ th4 sights1 sights2 u_sights ++ (ceT cI cZ th5 telling1 telling2 telling3 telling4 telling5 u_telling ++ (ceG cI cZ th6 seating1 seating2 seating3 seating4 seating5 seating6 u_seating ++ (ceU cI cZ th7 turns1 turns2 turns3 turns4 turns5 turns6 u_turns ++ (ceI cI cZ th8 firstImage1 firstImage2 firstImage3 firstImage4 firstImage5 firstImage6 firstImage7 firstImage8 u_firstImage ++ (ceI cI cZ th9 secondImage1 secondImage2 secondImage3 secondImage4 secondImage5 secondImage6 secondImage7 secondImage8 u_secondImage ++ (ceM cI cZ md0 md1 md2 md3 md4 md5 md6 md7 md8 md9 u_md))))))))))) H := hP
        have hD : va_D A (ceX th0 th1 th2 th3 th4 th5 th6 th7 th8 th9 ++ (ceW cI cZ th1 wheel1 wheel2 wheel3 wheel4 u_wheel ++ (ceW cI cZ th2 trial1 trial2 trial3 trial4 u_trial ++ (ceP cI cZ th3 pad1 u_pad ++ (ceS cI cZ th4 sights1 sights2 u_sights ++ (ceT cI cZ th5 telling1 telling2 telling3 telling4 telling5 u_telling ++ (ceG cI cZ th6 seating1 seating2 seating3 seating4 seating5 seating6 u_seating ++ (ceU cI cZ th7 turns1 turns2 turns3 turns4 turns5 turns6 u_turns ++ (ceI cI cZ th8 firstImage1 firstImage2 firstImage3 firstImage4 firstImage5 firstImage6 firstImage7 firstImage8 u_firstImage ++ (ceI cI cZ th9 secondImage1 secondImage2 secondImage3 secondImage4 secondImage5 secondImage6 secondImage7 secondImage8 u_secondImage ++ (ceM cI cZ md0 md1 md2 md3 md4 md5 md6 md7 md8 md9 u_md))))))))))) := hD
        refine lv_aload_n hx hb dL_law_244 rfl (lv_at hl 2 rfl) ?_
        obtain ⟨z29, hz_z29, hf⟩ := o_bind hf
        refine k_calli (va_runV (As := []) (rest := [.int z28.1]) ⟨hx, hb, hml, hown, hts⟩ (c_X11_fault l D cI cZ md0 md1 md2 md3 md4 md5 md6 md7 md8 md9 H.size u_md z29 hz_z29) (cwV 0 hts gL_law_X11_fault rfl rfl rfl ⟨rfl, hd_X11_fault⟩ ⟨Nat.le_of_ble_eq_true rfl, Nat.le_of_ble_eq_true rfl⟩) (k_preV hK hP hD hS hA hE [54, 55, 56, 57, 58, 59, 60, 61, 62, 63] (by decide) rfl (ci := 8) rfl rfl) rfl rfl hl.1 rfl (lv_room (Nat.le_of_ble_eq_true rfl)) dL_law_245 ⟨Nat.le_of_ble_eq_true rfl, Nat.le_of_ble_eq_true rfl⟩) hP hD hS hA [54, 55, 56, 57, 58, 59, 60, 61, 62, 63] [none, none, none, none, none, none, none, none, none, none, none, none, none, none, none, none, none, none, none, none, none, none, none, none, none, none, none, none, none, none, none, none, none, none, none, none, none, none, none, none, none, none, none, none, none, none, none, none, none, none, none, none, none, none, some 0, some 1, some 2, some 3, some 4, some 5, some 6, some 7, some 8, some 9] 10 rfl (by decide) (by decide) rfl rfl (fun H locs hP hD hS => ?_)
        have hP : va_P D vwCl (ceX th0 th1 th2 th3 th4 th5 th6 th7 th8 th9 ++ (ceW cI cZ th1 wheel1 wheel2 wheel3 wheel4 u_wheel ++ (ceW cI cZ th2 trial1 trial2 trial3 trial4 u_trial ++ (ceP cI cZ th3 pad1 u_pad ++ (ceS cI cZ th4 sights1 sights2 u_sights ++ (ceT cI cZ th5 telling1 telling2 telling3 telling4 telling5 u_telling ++ (ceG cI cZ th6 seating1 seating2 seating3 seating4 seating5 seating6 u_seating ++ (ceU cI cZ th7 turns1 turns2 turns3 turns4 turns5 turns6 u_turns ++ (ceI cI cZ th8 firstImage1 firstImage2 firstImage3 firstImage4 firstImage5 firstImage6 firstImage7 firstImage8 u_firstImage ++ (ceI cI cZ th9 secondImage1 secondImage2 secondImage3 secondImage4 secondImage5 secondImage6 secondImage7 secondImage8 u_secondImage ++ (ceM cI cZ md0 md1 md2 md3 md4 md5 md6 md7 md8 md9 u_md))))))))))) H := hP
        have hD : va_D A (ceX th0 th1 th2 th3 th4 th5 th6 th7 th8 th9 ++ (ceW cI cZ th1 wheel1 wheel2 wheel3 wheel4 u_wheel ++ (ceW cI cZ th2 trial1 trial2 trial3 trial4 u_trial ++ (ceP cI cZ th3 pad1 u_pad ++ (ceS cI cZ th4 sights1 sights2 u_sights ++ (ceT cI cZ th5 telling1 telling2 telling3 telling4 telling5 u_telling ++ (ceG cI cZ th6 seating1 seating2 seating3 seating4 seating5 seating6 u_seating ++ (ceU cI cZ th7 turns1 turns2 turns3 turns4 turns5 turns6 u_turns ++ (ceI cI cZ th8 firstImage1 firstImage2 firstImage3 firstImage4 firstImage5 firstImage6 firstImage7 firstImage8 u_firstImage ++ (ceI cI cZ th9 secondImage1 secondImage2 secondImage3 secondImage4 secondImage5 secondImage6 secondImage7 secondImage8 u_secondImage ++ (ceM cI cZ md0 md1 md2 md3 md4 md5 md6 md7 md8 md9 u_md))))))))))) := hD
        refine lv_icmp_eq (tgt := 764) hx hb dL_law_248 (by decide) (fun c30 => ?_) (fun c30 => ?_)
        · have hf := (if_pos c30).symm.trans hf
          refine lv_iinc (v := (v3 + (4 : Int32))) (lv' := [(3, .int (v3 + (4 : Int32))), (0, .ref b), (1, .ref th0), (2, .ref md0)]) hx hb dL_law_764 hl (k := 3) rfl rfl (by decide) rfl (fun ls hl => ?_)
          refine lv_goto (tgt := 18) hx hb dL_law_767 (by decide) ?_
          exact ih (v3 + (4 : Int32)) u_wheel u_trial u_pad u_sights u_telling u_seating u_turns u_firstImage u_secondImage u_md _ _ ls (lv_sub hl [1, 2, 3, 0] rfl) hP hD hS hf
        · have hf := (if_neg c30).symm.trans hf
          refine lv_iconst (v := 0) hx hb dL_law_251 (by decide) ?_
          exact absurd (Option.some.inj hf) (by decide)
      have hf := (if_neg c27).symm.trans hf
      by_cases c31 : ((xs v3.toNatClampNeg) &&& (31 : Int32)) = 5
      · have hf := (if_pos c31).symm.trans hf
        refine lv_tableIn hx hb dL_law_32 (by rw [c31]; decide) (by rw [c31]; decide) (off := 221) (tgt := 253) (by rw [c31]; rfl) (by decide) ?_
        refine lv_aload_n hx hb dL_law_253 rfl (lv_at hl 1 rfl) ?_
        refine lv_aload_n hx hb dL_law_254 rfl (lv_at hl 0 rfl) ?_
        refine lv_iload_n hx hb dL_law_255 rfl (lv_at hl 3 rfl) ?_
        refine lv_iconst (v := 1) hx hb dL_law_256 (by decide) ?_
        refine lv_iadd hx hb dL_law_257 ?_
        by_cases c32 : (v3 + (1 : Int32)) < 0 ∨ L ≤ (v3 + (1 : Int32)).toNatClampNeg
        · have hf := (if_pos c32).symm.trans hf
          cases hf
        have hf := (if_neg c32).symm.trans hf
        refine va_sld hx hb hX hbl hbA hS (show vp_in (v3 + (1 : Int32)) L from c32) dL_law_258 ?_
        obtain ⟨z33, hz_z33, hf⟩ := o_bind hf
        refine k_calli (va_runV (As := [.int (xs (v3 + (1 : Int32)).toNatClampNeg)]) (rest := []) ⟨hx, hb, hml, hown, hts⟩ (c_X10_judge l D cI cZ th0 th1 th2 th3 th4 th5 th6 th7 th8 th9 wheel1 wheel2 wheel3 wheel4 pad1 telling1 telling2 telling3 telling4 telling5 H.size u_wheel u_pad u_telling (xs (v3 + (1 : Int32)).toNatClampNeg) z33 hz_z33) (cwV 1 hts gL_law_X10_judge rfl rfl rfl ⟨rfl, hd_X10_judge⟩ ⟨Nat.le_of_ble_eq_true rfl, Nat.le_of_ble_eq_true rfl⟩) (k_preV hK hP hD hS hA hE [0, 1, 2, 3, 4, 5, 11, 12, 16, 17, 18, 19, 20, 21] (by decide) rfl (ci := 7) rfl rfl) rfl rfl hl.1 rfl (lv_room (Nat.le_of_ble_eq_true rfl)) dL_law_259 ⟨Nat.le_of_ble_eq_true rfl, Nat.le_of_ble_eq_true rfl⟩) hP hD hS hA [0, 1, 2, 3, 4, 5, 11, 12, 16, 17, 18, 19, 20, 21] [some 0, some 1, some 2, some 3, some 4, some 5, none, none, none, none, none, some 6, some 7, none, none, none, some 8, some 9, some 10, some 11, some 12, some 13, none, none, none, none, none, none, none, none, none, none, none, none, none, none, none, none, none, none, none, none, none, none, none, none, none, none, none, none, none, none, none, none, none, none, none, none, none, none, none, none, none, none] 14 rfl (by decide) (by decide) rfl rfl (fun H locs hP hD hS => ?_)
        have hP : va_P D vwCl (ceX th0 th1 th2 th3 th4 th5 th6 th7 th8 th9 ++ (ceW cI cZ th1 wheel1 wheel2 wheel3 wheel4 u_wheel ++ (ceW cI cZ th2 trial1 trial2 trial3 trial4 u_trial ++ (ceP cI cZ th3 pad1 u_pad ++ (ceS cI cZ th4 sights1 sights2 u_sights ++ (ceT cI cZ th5 telling1 telling2 telling3 telling4 telling5 z33.2 ++ (ceG cI cZ th6 seating1 seating2 seating3 seating4 seating5 seating6 u_seating ++ (ceU cI cZ th7 turns1 turns2 turns3 turns4 turns5 turns6 u_turns ++ (ceI cI cZ th8 firstImage1 firstImage2 firstImage3 firstImage4 firstImage5 firstImage6 firstImage7 firstImage8 u_firstImage ++ (ceI cI cZ th9 secondImage1 secondImage2 secondImage3 secondImage4 secondImage5 secondImage6 secondImage7 secondImage8 u_secondImage ++ (ceM cI cZ md0 md1 md2 md3 md4 md5 md6 md7 md8 md9 u_md))))))))))) H := hP
        have hD : va_D A (ceX th0 th1 th2 th3 th4 th5 th6 th7 th8 th9 ++ (ceW cI cZ th1 wheel1 wheel2 wheel3 wheel4 u_wheel ++ (ceW cI cZ th2 trial1 trial2 trial3 trial4 u_trial ++ (ceP cI cZ th3 pad1 u_pad ++ (ceS cI cZ th4 sights1 sights2 u_sights ++ (ceT cI cZ th5 telling1 telling2 telling3 telling4 telling5 z33.2 ++ (ceG cI cZ th6 seating1 seating2 seating3 seating4 seating5 seating6 u_seating ++ (ceU cI cZ th7 turns1 turns2 turns3 turns4 turns5 turns6 u_turns ++ (ceI cI cZ th8 firstImage1 firstImage2 firstImage3 firstImage4 firstImage5 firstImage6 firstImage7 firstImage8 u_firstImage ++ (ceI cI cZ th9 secondImage1 secondImage2 secondImage3 secondImage4 secondImage5 secondImage6 secondImage7 secondImage8 u_secondImage ++ (ceM cI cZ md0 md1 md2 md3 md4 md5 md6 md7 md8 md9 u_md))))))))))) := hD
        refine lv_aload_n hx hb dL_law_262 rfl (lv_at hl 2 rfl) ?_
        refine lv_aload_n hx hb dL_law_263 rfl (lv_at hl 0 rfl) ?_
        refine lv_iload_n hx hb dL_law_264 rfl (lv_at hl 3 rfl) ?_
        refine lv_iconst (v := 1) hx hb dL_law_265 (by decide) ?_
        refine lv_iadd hx hb dL_law_266 ?_
        by_cases c34 : (v3 + (1 : Int32)) < 0 ∨ L ≤ (v3 + (1 : Int32)).toNatClampNeg
        · have hf := (if_pos c34).symm.trans hf
          cases hf
        have hf := (if_neg c34).symm.trans hf
        refine va_sld hx hb hX hbl hbA hS (show vp_in (v3 + (1 : Int32)) L from c34) dL_law_267 ?_
        obtain ⟨z35, hz_z35, hf⟩ := o_bind hf
        refine k_calli (va_runV (As := [.int (xs (v3 + (1 : Int32)).toNatClampNeg)]) (rest := [.int z33.1]) ⟨hx, hb, hml, hown, hts⟩ (c_X11_judge l D cI cZ md0 md1 md2 md3 md4 md5 md6 md7 md8 md9 H.size u_md (xs (v3 + (1 : Int32)).toNatClampNeg) z35 hz_z35) (cwV 1 hts gL_law_X11_judge rfl rfl rfl ⟨rfl, hd_X11_judge⟩ ⟨Nat.le_of_ble_eq_true rfl, Nat.le_of_ble_eq_true rfl⟩) (k_preV hK hP hD hS hA hE [54, 55, 56, 57, 58, 59, 60, 61, 62, 63] (by decide) rfl (ci := 8) rfl rfl) rfl rfl hl.1 rfl (lv_room (Nat.le_of_ble_eq_true rfl)) dL_law_268 ⟨Nat.le_of_ble_eq_true rfl, Nat.le_of_ble_eq_true rfl⟩) hP hD hS hA [54, 55, 56, 57, 58, 59, 60, 61, 62, 63] [none, none, none, none, none, none, none, none, none, none, none, none, none, none, none, none, none, none, none, none, none, none, none, none, none, none, none, none, none, none, none, none, none, none, none, none, none, none, none, none, none, none, none, none, none, none, none, none, none, none, none, none, none, none, some 0, some 1, some 2, some 3, some 4, some 5, some 6, some 7, some 8, some 9] 10 rfl (by decide) (by decide) rfl rfl (fun H locs hP hD hS => ?_)
        have hP : va_P D vwCl (ceX th0 th1 th2 th3 th4 th5 th6 th7 th8 th9 ++ (ceW cI cZ th1 wheel1 wheel2 wheel3 wheel4 u_wheel ++ (ceW cI cZ th2 trial1 trial2 trial3 trial4 u_trial ++ (ceP cI cZ th3 pad1 u_pad ++ (ceS cI cZ th4 sights1 sights2 u_sights ++ (ceT cI cZ th5 telling1 telling2 telling3 telling4 telling5 z33.2 ++ (ceG cI cZ th6 seating1 seating2 seating3 seating4 seating5 seating6 u_seating ++ (ceU cI cZ th7 turns1 turns2 turns3 turns4 turns5 turns6 u_turns ++ (ceI cI cZ th8 firstImage1 firstImage2 firstImage3 firstImage4 firstImage5 firstImage6 firstImage7 firstImage8 u_firstImage ++ (ceI cI cZ th9 secondImage1 secondImage2 secondImage3 secondImage4 secondImage5 secondImage6 secondImage7 secondImage8 u_secondImage ++ (ceM cI cZ md0 md1 md2 md3 md4 md5 md6 md7 md8 md9 z35.2))))))))))) H := hP
        have hD : va_D A (ceX th0 th1 th2 th3 th4 th5 th6 th7 th8 th9 ++ (ceW cI cZ th1 wheel1 wheel2 wheel3 wheel4 u_wheel ++ (ceW cI cZ th2 trial1 trial2 trial3 trial4 u_trial ++ (ceP cI cZ th3 pad1 u_pad ++ (ceS cI cZ th4 sights1 sights2 u_sights ++ (ceT cI cZ th5 telling1 telling2 telling3 telling4 telling5 z33.2 ++ (ceG cI cZ th6 seating1 seating2 seating3 seating4 seating5 seating6 u_seating ++ (ceU cI cZ th7 turns1 turns2 turns3 turns4 turns5 turns6 u_turns ++ (ceI cI cZ th8 firstImage1 firstImage2 firstImage3 firstImage4 firstImage5 firstImage6 firstImage7 firstImage8 u_firstImage ++ (ceI cI cZ th9 secondImage1 secondImage2 secondImage3 secondImage4 secondImage5 secondImage6 secondImage7 secondImage8 u_secondImage ++ (ceM cI cZ md0 md1 md2 md3 md4 md5 md6 md7 md8 md9 z35.2))))))))))) := hD
        refine lv_icmp_eq (tgt := 764) hx hb dL_law_271 (by decide) (fun c36 => ?_) (fun c36 => ?_)
        · have hf := (if_pos c36).symm.trans hf
          refine lv_iinc (v := (v3 + (4 : Int32))) (lv' := [(3, .int (v3 + (4 : Int32))), (0, .ref b), (1, .ref th0), (2, .ref md0)]) hx hb dL_law_764 hl (k := 3) rfl rfl (by decide) rfl (fun ls hl => ?_)
          refine lv_goto (tgt := 18) hx hb dL_law_767 (by decide) ?_
          exact ih (v3 + (4 : Int32)) u_wheel u_trial u_pad u_sights z33.2 u_seating u_turns u_firstImage u_secondImage z35.2 _ _ ls (lv_sub hl [1, 2, 3, 0] rfl) hP hD hS hf
        · have hf := (if_neg c36).symm.trans hf
          refine lv_iconst (v := 0) hx hb dL_law_274 (by decide) ?_
          exact absurd (Option.some.inj hf) (by decide)
      have hf := (if_neg c31).symm.trans hf
      by_cases c37 : ((xs v3.toNatClampNeg) &&& (31 : Int32)) = 6
      · have hf := (if_pos c37).symm.trans hf
        refine lv_tableIn hx hb dL_law_32 (by rw [c37]; decide) (by rw [c37]; decide) (off := 244) (tgt := 276) (by rw [c37]; rfl) (by decide) ?_
        refine lv_aload_n hx hb dL_law_276 rfl (lv_at hl 1 rfl) ?_
        obtain ⟨z38, hz_z38, hf⟩ := o_bind hf
        refine k_calli (va_runV (As := []) (rest := []) ⟨hx, hb, hml, hown, hts⟩ (c_X10_done l D cI cZ th0 th1 th2 th3 th4 th5 th6 th7 th8 th9 wheel1 wheel2 wheel3 wheel4 pad1 telling1 telling2 telling3 telling4 telling5 H.size u_wheel u_pad u_telling z38 hz_z38) (cwV 0 hts gL_law_X10_done rfl rfl rfl ⟨rfl, hd_X10_done⟩ ⟨Nat.le_of_ble_eq_true rfl, Nat.le_of_ble_eq_true rfl⟩) (k_preV hK hP hD hS hA hE [0, 1, 2, 3, 4, 5, 11, 12, 16, 17, 18, 19, 20, 21] (by decide) rfl (ci := 7) rfl rfl) rfl rfl hl.1 rfl (lv_room (Nat.le_of_ble_eq_true rfl)) dL_law_277 ⟨Nat.le_of_ble_eq_true rfl, Nat.le_of_ble_eq_true rfl⟩) hP hD hS hA [0, 1, 2, 3, 4, 5, 11, 12, 16, 17, 18, 19, 20, 21] [some 0, some 1, some 2, some 3, some 4, some 5, none, none, none, none, none, some 6, some 7, none, none, none, some 8, some 9, some 10, some 11, some 12, some 13, none, none, none, none, none, none, none, none, none, none, none, none, none, none, none, none, none, none, none, none, none, none, none, none, none, none, none, none, none, none, none, none, none, none, none, none, none, none, none, none, none, none] 14 rfl (by decide) (by decide) rfl rfl (fun H locs hP hD hS => ?_)
        have hP : va_P D vwCl (ceX th0 th1 th2 th3 th4 th5 th6 th7 th8 th9 ++ (ceW cI cZ th1 wheel1 wheel2 wheel3 wheel4 z38.2.1 ++ (ceW cI cZ th2 trial1 trial2 trial3 trial4 u_trial ++ (ceP cI cZ th3 pad1 z38.2.2.1 ++ (ceS cI cZ th4 sights1 sights2 u_sights ++ (ceT cI cZ th5 telling1 telling2 telling3 telling4 telling5 z38.2.2.2 ++ (ceG cI cZ th6 seating1 seating2 seating3 seating4 seating5 seating6 u_seating ++ (ceU cI cZ th7 turns1 turns2 turns3 turns4 turns5 turns6 u_turns ++ (ceI cI cZ th8 firstImage1 firstImage2 firstImage3 firstImage4 firstImage5 firstImage6 firstImage7 firstImage8 u_firstImage ++ (ceI cI cZ th9 secondImage1 secondImage2 secondImage3 secondImage4 secondImage5 secondImage6 secondImage7 secondImage8 u_secondImage ++ (ceM cI cZ md0 md1 md2 md3 md4 md5 md6 md7 md8 md9 u_md))))))))))) H := hP
        have hD : va_D A (ceX th0 th1 th2 th3 th4 th5 th6 th7 th8 th9 ++ (ceW cI cZ th1 wheel1 wheel2 wheel3 wheel4 z38.2.1 ++ (ceW cI cZ th2 trial1 trial2 trial3 trial4 u_trial ++ (ceP cI cZ th3 pad1 z38.2.2.1 ++ (ceS cI cZ th4 sights1 sights2 u_sights ++ (ceT cI cZ th5 telling1 telling2 telling3 telling4 telling5 z38.2.2.2 ++ (ceG cI cZ th6 seating1 seating2 seating3 seating4 seating5 seating6 u_seating ++ (ceU cI cZ th7 turns1 turns2 turns3 turns4 turns5 turns6 u_turns ++ (ceI cI cZ th8 firstImage1 firstImage2 firstImage3 firstImage4 firstImage5 firstImage6 firstImage7 firstImage8 u_firstImage ++ (ceI cI cZ th9 secondImage1 secondImage2 secondImage3 secondImage4 secondImage5 secondImage6 secondImage7 secondImage8 u_secondImage ++ (ceM cI cZ md0 md1 md2 md3 md4 md5 md6 md7 md8 md9 u_md))))))))))) := hD
        refine lv_aload_n hx hb dL_law_280 rfl (lv_at hl 2 rfl) ?_
        obtain ⟨z39, hz_z39, hf⟩ := o_bind hf
        refine k_calli (va_runV (As := []) (rest := [.int z38.1]) ⟨hx, hb, hml, hown, hts⟩ (c_X11_done l D cI cZ md0 md1 md2 md3 md4 md5 md6 md7 md8 md9 H.size u_md z39 hz_z39) (cwV 0 hts gL_law_X11_done rfl rfl rfl ⟨rfl, hd_X11_done⟩ ⟨Nat.le_of_ble_eq_true rfl, Nat.le_of_ble_eq_true rfl⟩) (k_preV hK hP hD hS hA hE [54, 55, 56, 57, 58, 59, 60, 61, 62, 63] (by decide) rfl (ci := 8) rfl rfl) rfl rfl hl.1 rfl (lv_room (Nat.le_of_ble_eq_true rfl)) dL_law_281 ⟨Nat.le_of_ble_eq_true rfl, Nat.le_of_ble_eq_true rfl⟩) hP hD hS hA [54, 55, 56, 57, 58, 59, 60, 61, 62, 63] [none, none, none, none, none, none, none, none, none, none, none, none, none, none, none, none, none, none, none, none, none, none, none, none, none, none, none, none, none, none, none, none, none, none, none, none, none, none, none, none, none, none, none, none, none, none, none, none, none, none, none, none, none, none, some 0, some 1, some 2, some 3, some 4, some 5, some 6, some 7, some 8, some 9] 10 rfl (by decide) (by decide) rfl rfl (fun H locs hP hD hS => ?_)
        have hP : va_P D vwCl (ceX th0 th1 th2 th3 th4 th5 th6 th7 th8 th9 ++ (ceW cI cZ th1 wheel1 wheel2 wheel3 wheel4 z38.2.1 ++ (ceW cI cZ th2 trial1 trial2 trial3 trial4 u_trial ++ (ceP cI cZ th3 pad1 z38.2.2.1 ++ (ceS cI cZ th4 sights1 sights2 u_sights ++ (ceT cI cZ th5 telling1 telling2 telling3 telling4 telling5 z38.2.2.2 ++ (ceG cI cZ th6 seating1 seating2 seating3 seating4 seating5 seating6 u_seating ++ (ceU cI cZ th7 turns1 turns2 turns3 turns4 turns5 turns6 u_turns ++ (ceI cI cZ th8 firstImage1 firstImage2 firstImage3 firstImage4 firstImage5 firstImage6 firstImage7 firstImage8 u_firstImage ++ (ceI cI cZ th9 secondImage1 secondImage2 secondImage3 secondImage4 secondImage5 secondImage6 secondImage7 secondImage8 u_secondImage ++ (ceM cI cZ md0 md1 md2 md3 md4 md5 md6 md7 md8 md9 z39.2))))))))))) H := hP
        have hD : va_D A (ceX th0 th1 th2 th3 th4 th5 th6 th7 th8 th9 ++ (ceW cI cZ th1 wheel1 wheel2 wheel3 wheel4 z38.2.1 ++ (ceW cI cZ th2 trial1 trial2 trial3 trial4 u_trial ++ (ceP cI cZ th3 pad1 z38.2.2.1 ++ (ceS cI cZ th4 sights1 sights2 u_sights ++ (ceT cI cZ th5 telling1 telling2 telling3 telling4 telling5 z38.2.2.2 ++ (ceG cI cZ th6 seating1 seating2 seating3 seating4 seating5 seating6 u_seating ++ (ceU cI cZ th7 turns1 turns2 turns3 turns4 turns5 turns6 u_turns ++ (ceI cI cZ th8 firstImage1 firstImage2 firstImage3 firstImage4 firstImage5 firstImage6 firstImage7 firstImage8 u_firstImage ++ (ceI cI cZ th9 secondImage1 secondImage2 secondImage3 secondImage4 secondImage5 secondImage6 secondImage7 secondImage8 u_secondImage ++ (ceM cI cZ md0 md1 md2 md3 md4 md5 md6 md7 md8 md9 z39.2))))))))))) := hD
        refine lv_icmp_eq (tgt := 764) hx hb dL_law_284 (by decide) (fun c40 => ?_) (fun c40 => ?_)
        · have hf := (if_pos c40).symm.trans hf
          refine lv_iinc (v := (v3 + (4 : Int32))) (lv' := [(3, .int (v3 + (4 : Int32))), (0, .ref b), (1, .ref th0), (2, .ref md0)]) hx hb dL_law_764 hl (k := 3) rfl rfl (by decide) rfl (fun ls hl => ?_)
          refine lv_goto (tgt := 18) hx hb dL_law_767 (by decide) ?_
          exact ih (v3 + (4 : Int32)) z38.2.1 u_trial z38.2.2.1 u_sights z38.2.2.2 u_seating u_turns u_firstImage u_secondImage z39.2 _ _ ls (lv_sub hl [1, 2, 3, 0] rfl) hP hD hS hf
        · have hf := (if_neg c40).symm.trans hf
          refine lv_iconst (v := 0) hx hb dL_law_287 (by decide) ?_
          exact absurd (Option.some.inj hf) (by decide)
      have hf := (if_neg c37).symm.trans hf
      by_cases c41 : ((xs v3.toNatClampNeg) &&& (31 : Int32)) = 7
      · have hf := (if_pos c41).symm.trans hf
        refine lv_tableIn hx hb dL_law_32 (by rw [c41]; decide) (by rw [c41]; decide) (off := 257) (tgt := 289) (by rw [c41]; rfl) (by decide) ?_
        refine lv_aload_n hx hb dL_law_289 rfl (lv_at hl 1 rfl) ?_
        obtain ⟨z42, hz_z42, hf⟩ := o_bind hf
        refine k_calli (va_runV (As := []) (rest := []) ⟨hx, hb, hml, hown, hts⟩ (c_X10_foot l D cI cZ th0 th1 th2 th3 th4 th5 th6 th7 th8 th9 wheel1 wheel2 wheel3 wheel4 H.size u_wheel z42 hz_z42) (cwV 0 hts gL_law_X10_foot rfl rfl rfl ⟨rfl, hd_X10_foot⟩ ⟨Nat.le_of_ble_eq_true rfl, Nat.le_of_ble_eq_true rfl⟩) (k_preV hK hP hD hS hA hE [0, 1, 2, 3, 4, 5] (by decide) rfl (ci := 7) rfl rfl) rfl rfl hl.1 rfl (lv_room (Nat.le_of_ble_eq_true rfl)) dL_law_290 ⟨Nat.le_of_ble_eq_true rfl, Nat.le_of_ble_eq_true rfl⟩) hP hD hS hA [0, 1, 2, 3, 4, 5] [some 0, some 1, some 2, some 3, some 4, some 5, none, none, none, none, none, none, none, none, none, none, none, none, none, none, none, none, none, none, none, none, none, none, none, none, none, none, none, none, none, none, none, none, none, none, none, none, none, none, none, none, none, none, none, none, none, none, none, none, none, none, none, none, none, none, none, none, none, none] 6 rfl (by decide) (by decide) rfl rfl (fun H locs hP hD hS => ?_)
        have hP : va_P D vwCl (ceX th0 th1 th2 th3 th4 th5 th6 th7 th8 th9 ++ (ceW cI cZ th1 wheel1 wheel2 wheel3 wheel4 u_wheel ++ (ceW cI cZ th2 trial1 trial2 trial3 trial4 u_trial ++ (ceP cI cZ th3 pad1 u_pad ++ (ceS cI cZ th4 sights1 sights2 u_sights ++ (ceT cI cZ th5 telling1 telling2 telling3 telling4 telling5 u_telling ++ (ceG cI cZ th6 seating1 seating2 seating3 seating4 seating5 seating6 u_seating ++ (ceU cI cZ th7 turns1 turns2 turns3 turns4 turns5 turns6 u_turns ++ (ceI cI cZ th8 firstImage1 firstImage2 firstImage3 firstImage4 firstImage5 firstImage6 firstImage7 firstImage8 u_firstImage ++ (ceI cI cZ th9 secondImage1 secondImage2 secondImage3 secondImage4 secondImage5 secondImage6 secondImage7 secondImage8 u_secondImage ++ (ceM cI cZ md0 md1 md2 md3 md4 md5 md6 md7 md8 md9 u_md))))))))))) H := hP
        have hD : va_D A (ceX th0 th1 th2 th3 th4 th5 th6 th7 th8 th9 ++ (ceW cI cZ th1 wheel1 wheel2 wheel3 wheel4 u_wheel ++ (ceW cI cZ th2 trial1 trial2 trial3 trial4 u_trial ++ (ceP cI cZ th3 pad1 u_pad ++ (ceS cI cZ th4 sights1 sights2 u_sights ++ (ceT cI cZ th5 telling1 telling2 telling3 telling4 telling5 u_telling ++ (ceG cI cZ th6 seating1 seating2 seating3 seating4 seating5 seating6 u_seating ++ (ceU cI cZ th7 turns1 turns2 turns3 turns4 turns5 turns6 u_turns ++ (ceI cI cZ th8 firstImage1 firstImage2 firstImage3 firstImage4 firstImage5 firstImage6 firstImage7 firstImage8 u_firstImage ++ (ceI cI cZ th9 secondImage1 secondImage2 secondImage3 secondImage4 secondImage5 secondImage6 secondImage7 secondImage8 u_secondImage ++ (ceM cI cZ md0 md1 md2 md3 md4 md5 md6 md7 md8 md9 u_md))))))))))) := hD
        refine lv_aload_n hx hb dL_law_293 rfl (lv_at hl 2 rfl) ?_
        obtain ⟨z43, hz_z43, hf⟩ := o_bind hf
        refine k_calli (va_runV (As := []) (rest := [.int z42.1]) ⟨hx, hb, hml, hown, hts⟩ (c_X11_foot l D cI cZ md0 md1 md2 md3 md4 md5 md6 md7 md8 md9 H.size u_md z43 hz_z43) (cwV 0 hts gL_law_X11_foot rfl rfl rfl ⟨rfl, hd_X11_foot⟩ ⟨Nat.le_of_ble_eq_true rfl, Nat.le_of_ble_eq_true rfl⟩) (k_preV hK hP hD hS hA hE [54, 55, 56, 57, 58, 59, 60, 61, 62, 63] (by decide) rfl (ci := 8) rfl rfl) rfl rfl hl.1 rfl (lv_room (Nat.le_of_ble_eq_true rfl)) dL_law_294 ⟨Nat.le_of_ble_eq_true rfl, Nat.le_of_ble_eq_true rfl⟩) hP hD hS hA [54, 55, 56, 57, 58, 59, 60, 61, 62, 63] [none, none, none, none, none, none, none, none, none, none, none, none, none, none, none, none, none, none, none, none, none, none, none, none, none, none, none, none, none, none, none, none, none, none, none, none, none, none, none, none, none, none, none, none, none, none, none, none, none, none, none, none, none, none, some 0, some 1, some 2, some 3, some 4, some 5, some 6, some 7, some 8, some 9] 10 rfl (by decide) (by decide) rfl rfl (fun H locs hP hD hS => ?_)
        have hP : va_P D vwCl (ceX th0 th1 th2 th3 th4 th5 th6 th7 th8 th9 ++ (ceW cI cZ th1 wheel1 wheel2 wheel3 wheel4 u_wheel ++ (ceW cI cZ th2 trial1 trial2 trial3 trial4 u_trial ++ (ceP cI cZ th3 pad1 u_pad ++ (ceS cI cZ th4 sights1 sights2 u_sights ++ (ceT cI cZ th5 telling1 telling2 telling3 telling4 telling5 u_telling ++ (ceG cI cZ th6 seating1 seating2 seating3 seating4 seating5 seating6 u_seating ++ (ceU cI cZ th7 turns1 turns2 turns3 turns4 turns5 turns6 u_turns ++ (ceI cI cZ th8 firstImage1 firstImage2 firstImage3 firstImage4 firstImage5 firstImage6 firstImage7 firstImage8 u_firstImage ++ (ceI cI cZ th9 secondImage1 secondImage2 secondImage3 secondImage4 secondImage5 secondImage6 secondImage7 secondImage8 u_secondImage ++ (ceM cI cZ md0 md1 md2 md3 md4 md5 md6 md7 md8 md9 u_md))))))))))) H := hP
        have hD : va_D A (ceX th0 th1 th2 th3 th4 th5 th6 th7 th8 th9 ++ (ceW cI cZ th1 wheel1 wheel2 wheel3 wheel4 u_wheel ++ (ceW cI cZ th2 trial1 trial2 trial3 trial4 u_trial ++ (ceP cI cZ th3 pad1 u_pad ++ (ceS cI cZ th4 sights1 sights2 u_sights ++ (ceT cI cZ th5 telling1 telling2 telling3 telling4 telling5 u_telling ++ (ceG cI cZ th6 seating1 seating2 seating3 seating4 seating5 seating6 u_seating ++ (ceU cI cZ th7 turns1 turns2 turns3 turns4 turns5 turns6 u_turns ++ (ceI cI cZ th8 firstImage1 firstImage2 firstImage3 firstImage4 firstImage5 firstImage6 firstImage7 firstImage8 u_firstImage ++ (ceI cI cZ th9 secondImage1 secondImage2 secondImage3 secondImage4 secondImage5 secondImage6 secondImage7 secondImage8 u_secondImage ++ (ceM cI cZ md0 md1 md2 md3 md4 md5 md6 md7 md8 md9 u_md))))))))))) := hD
        refine lv_icmp_eq (tgt := 764) hx hb dL_law_297 (by decide) (fun c44 => ?_) (fun c44 => ?_)
        · have hf := (if_pos c44).symm.trans hf
          refine lv_iinc (v := (v3 + (4 : Int32))) (lv' := [(3, .int (v3 + (4 : Int32))), (0, .ref b), (1, .ref th0), (2, .ref md0)]) hx hb dL_law_764 hl (k := 3) rfl rfl (by decide) rfl (fun ls hl => ?_)
          refine lv_goto (tgt := 18) hx hb dL_law_767 (by decide) ?_
          exact ih (v3 + (4 : Int32)) u_wheel u_trial u_pad u_sights u_telling u_seating u_turns u_firstImage u_secondImage u_md _ _ ls (lv_sub hl [1, 2, 3, 0] rfl) hP hD hS hf
        · have hf := (if_neg c44).symm.trans hf
          refine lv_iconst (v := 0) hx hb dL_law_300 (by decide) ?_
          exact absurd (Option.some.inj hf) (by decide)
      have hf := (if_neg c41).symm.trans hf
      by_cases c45 : ((xs v3.toNatClampNeg) &&& (31 : Int32)) = 8
      · have hf := (if_pos c45).symm.trans hf
        refine lv_tableIn hx hb dL_law_32 (by rw [c45]; decide) (by rw [c45]; decide) (off := 270) (tgt := 302) (by rw [c45]; rfl) (by decide) ?_
        refine lv_aload_n hx hb dL_law_302 rfl (lv_at hl 1 rfl) ?_
        refine lv_aload_n hx hb dL_law_303 rfl (lv_at hl 0 rfl) ?_
        refine lv_iload_n hx hb dL_law_304 rfl (lv_at hl 3 rfl) ?_
        refine lv_iconst (v := 1) hx hb dL_law_305 (by decide) ?_
        refine lv_iadd hx hb dL_law_306 ?_
        by_cases c46 : (v3 + (1 : Int32)) < 0 ∨ L ≤ (v3 + (1 : Int32)).toNatClampNeg
        · have hf := (if_pos c46).symm.trans hf
          cases hf
        have hf := (if_neg c46).symm.trans hf
        refine va_sld hx hb hX hbl hbA hS (show vp_in (v3 + (1 : Int32)) L from c46) dL_law_307 ?_
        refine lv_aload_n hx hb dL_law_308 rfl (lv_at hl 0 rfl) ?_
        refine lv_iload_n hx hb dL_law_309 rfl (lv_at hl 3 rfl) ?_
        refine lv_iconst (v := 2) hx hb dL_law_310 (by decide) ?_
        refine lv_iadd hx hb dL_law_311 ?_
        by_cases c47 : (v3 + (2 : Int32)) < 0 ∨ L ≤ (v3 + (2 : Int32)).toNatClampNeg
        · have hf := (if_pos c47).symm.trans hf
          cases hf
        have hf := (if_neg c47).symm.trans hf
        refine va_sld hx hb hX hbl hbA hS (show vp_in (v3 + (2 : Int32)) L from c47) dL_law_312 ?_
        obtain ⟨z48, hz_z48, hf⟩ := o_bind hf
        refine k_calli (va_runV (As := [.int (xs (v3 + (1 : Int32)).toNatClampNeg), .int (xs (v3 + (2 : Int32)).toNatClampNeg)]) (rest := []) ⟨hx, hb, hml, hown, hts⟩ (c_X10_car l D cI cZ th0 th1 th2 th3 th4 th5 th6 th7 th8 th9 wheel1 wheel2 wheel3 wheel4 H.size u_wheel (xs (v3 + (1 : Int32)).toNatClampNeg) (xs (v3 + (2 : Int32)).toNatClampNeg) z48 hz_z48) (cwV 2 hts gL_law_X10_car rfl rfl rfl ⟨rfl, hd_X10_car⟩ ⟨Nat.le_of_ble_eq_true rfl, Nat.le_of_ble_eq_true rfl⟩) (k_preV hK hP hD hS hA hE [0, 1, 2, 3, 4, 5] (by decide) rfl (ci := 7) rfl rfl) rfl rfl hl.1 rfl (lv_room (Nat.le_of_ble_eq_true rfl)) dL_law_313 ⟨Nat.le_of_ble_eq_true rfl, Nat.le_of_ble_eq_true rfl⟩) hP hD hS hA [0, 1, 2, 3, 4, 5] [some 0, some 1, some 2, some 3, some 4, some 5, none, none, none, none, none, none, none, none, none, none, none, none, none, none, none, none, none, none, none, none, none, none, none, none, none, none, none, none, none, none, none, none, none, none, none, none, none, none, none, none, none, none, none, none, none, none, none, none, none, none, none, none, none, none, none, none, none, none] 6 rfl (by decide) (by decide) rfl rfl (fun H locs hP hD hS => ?_)
        have hP : va_P D vwCl (ceX th0 th1 th2 th3 th4 th5 th6 th7 th8 th9 ++ (ceW cI cZ th1 wheel1 wheel2 wheel3 wheel4 u_wheel ++ (ceW cI cZ th2 trial1 trial2 trial3 trial4 u_trial ++ (ceP cI cZ th3 pad1 u_pad ++ (ceS cI cZ th4 sights1 sights2 u_sights ++ (ceT cI cZ th5 telling1 telling2 telling3 telling4 telling5 u_telling ++ (ceG cI cZ th6 seating1 seating2 seating3 seating4 seating5 seating6 u_seating ++ (ceU cI cZ th7 turns1 turns2 turns3 turns4 turns5 turns6 u_turns ++ (ceI cI cZ th8 firstImage1 firstImage2 firstImage3 firstImage4 firstImage5 firstImage6 firstImage7 firstImage8 u_firstImage ++ (ceI cI cZ th9 secondImage1 secondImage2 secondImage3 secondImage4 secondImage5 secondImage6 secondImage7 secondImage8 u_secondImage ++ (ceM cI cZ md0 md1 md2 md3 md4 md5 md6 md7 md8 md9 u_md))))))))))) H := hP
        have hD : va_D A (ceX th0 th1 th2 th3 th4 th5 th6 th7 th8 th9 ++ (ceW cI cZ th1 wheel1 wheel2 wheel3 wheel4 u_wheel ++ (ceW cI cZ th2 trial1 trial2 trial3 trial4 u_trial ++ (ceP cI cZ th3 pad1 u_pad ++ (ceS cI cZ th4 sights1 sights2 u_sights ++ (ceT cI cZ th5 telling1 telling2 telling3 telling4 telling5 u_telling ++ (ceG cI cZ th6 seating1 seating2 seating3 seating4 seating5 seating6 u_seating ++ (ceU cI cZ th7 turns1 turns2 turns3 turns4 turns5 turns6 u_turns ++ (ceI cI cZ th8 firstImage1 firstImage2 firstImage3 firstImage4 firstImage5 firstImage6 firstImage7 firstImage8 u_firstImage ++ (ceI cI cZ th9 secondImage1 secondImage2 secondImage3 secondImage4 secondImage5 secondImage6 secondImage7 secondImage8 u_secondImage ++ (ceM cI cZ md0 md1 md2 md3 md4 md5 md6 md7 md8 md9 u_md))))))))))) := hD
        refine lv_aload_n hx hb dL_law_316 rfl (lv_at hl 2 rfl) ?_
        refine lv_aload_n hx hb dL_law_317 rfl (lv_at hl 0 rfl) ?_
        refine lv_iload_n hx hb dL_law_318 rfl (lv_at hl 3 rfl) ?_
        refine lv_iconst (v := 1) hx hb dL_law_319 (by decide) ?_
        refine lv_iadd hx hb dL_law_320 ?_
        by_cases c49 : (v3 + (1 : Int32)) < 0 ∨ L ≤ (v3 + (1 : Int32)).toNatClampNeg
        · have hf := (if_pos c49).symm.trans hf
          cases hf
        have hf := (if_neg c49).symm.trans hf
        refine va_sld hx hb hX hbl hbA hS (show vp_in (v3 + (1 : Int32)) L from c49) dL_law_321 ?_
        refine lv_aload_n hx hb dL_law_322 rfl (lv_at hl 0 rfl) ?_
        refine lv_iload_n hx hb dL_law_323 rfl (lv_at hl 3 rfl) ?_
        refine lv_iconst (v := 2) hx hb dL_law_324 (by decide) ?_
        refine lv_iadd hx hb dL_law_325 ?_
        by_cases c50 : (v3 + (2 : Int32)) < 0 ∨ L ≤ (v3 + (2 : Int32)).toNatClampNeg
        · have hf := (if_pos c50).symm.trans hf
          cases hf
        have hf := (if_neg c50).symm.trans hf
        refine va_sld hx hb hX hbl hbA hS (show vp_in (v3 + (2 : Int32)) L from c50) dL_law_326 ?_
        obtain ⟨z51, hz_z51, hf⟩ := o_bind hf
        refine k_calli (va_runV (As := [.int (xs (v3 + (1 : Int32)).toNatClampNeg), .int (xs (v3 + (2 : Int32)).toNatClampNeg)]) (rest := [.int z48.1]) ⟨hx, hb, hml, hown, hts⟩ (c_X11_car l D cI cZ md0 md1 md2 md3 md4 md5 md6 md7 md8 md9 H.size u_md (xs (v3 + (1 : Int32)).toNatClampNeg) (xs (v3 + (2 : Int32)).toNatClampNeg) z51 hz_z51) (cwV 2 hts gL_law_X11_car rfl rfl rfl ⟨rfl, hd_X11_car⟩ ⟨Nat.le_of_ble_eq_true rfl, Nat.le_of_ble_eq_true rfl⟩) (k_preV hK hP hD hS hA hE [54, 55, 56, 57, 58, 59, 60, 61, 62, 63] (by decide) rfl (ci := 8) rfl rfl) rfl rfl hl.1 rfl (lv_room (Nat.le_of_ble_eq_true rfl)) dL_law_327 ⟨Nat.le_of_ble_eq_true rfl, Nat.le_of_ble_eq_true rfl⟩) hP hD hS hA [54, 55, 56, 57, 58, 59, 60, 61, 62, 63] [none, none, none, none, none, none, none, none, none, none, none, none, none, none, none, none, none, none, none, none, none, none, none, none, none, none, none, none, none, none, none, none, none, none, none, none, none, none, none, none, none, none, none, none, none, none, none, none, none, none, none, none, none, none, some 0, some 1, some 2, some 3, some 4, some 5, some 6, some 7, some 8, some 9] 10 rfl (by decide) (by decide) rfl rfl (fun H locs hP hD hS => ?_)
        have hP : va_P D vwCl (ceX th0 th1 th2 th3 th4 th5 th6 th7 th8 th9 ++ (ceW cI cZ th1 wheel1 wheel2 wheel3 wheel4 u_wheel ++ (ceW cI cZ th2 trial1 trial2 trial3 trial4 u_trial ++ (ceP cI cZ th3 pad1 u_pad ++ (ceS cI cZ th4 sights1 sights2 u_sights ++ (ceT cI cZ th5 telling1 telling2 telling3 telling4 telling5 u_telling ++ (ceG cI cZ th6 seating1 seating2 seating3 seating4 seating5 seating6 u_seating ++ (ceU cI cZ th7 turns1 turns2 turns3 turns4 turns5 turns6 u_turns ++ (ceI cI cZ th8 firstImage1 firstImage2 firstImage3 firstImage4 firstImage5 firstImage6 firstImage7 firstImage8 u_firstImage ++ (ceI cI cZ th9 secondImage1 secondImage2 secondImage3 secondImage4 secondImage5 secondImage6 secondImage7 secondImage8 u_secondImage ++ (ceM cI cZ md0 md1 md2 md3 md4 md5 md6 md7 md8 md9 u_md))))))))))) H := hP
        have hD : va_D A (ceX th0 th1 th2 th3 th4 th5 th6 th7 th8 th9 ++ (ceW cI cZ th1 wheel1 wheel2 wheel3 wheel4 u_wheel ++ (ceW cI cZ th2 trial1 trial2 trial3 trial4 u_trial ++ (ceP cI cZ th3 pad1 u_pad ++ (ceS cI cZ th4 sights1 sights2 u_sights ++ (ceT cI cZ th5 telling1 telling2 telling3 telling4 telling5 u_telling ++ (ceG cI cZ th6 seating1 seating2 seating3 seating4 seating5 seating6 u_seating ++ (ceU cI cZ th7 turns1 turns2 turns3 turns4 turns5 turns6 u_turns ++ (ceI cI cZ th8 firstImage1 firstImage2 firstImage3 firstImage4 firstImage5 firstImage6 firstImage7 firstImage8 u_firstImage ++ (ceI cI cZ th9 secondImage1 secondImage2 secondImage3 secondImage4 secondImage5 secondImage6 secondImage7 secondImage8 u_secondImage ++ (ceM cI cZ md0 md1 md2 md3 md4 md5 md6 md7 md8 md9 u_md))))))))))) := hD
        refine lv_icmp_eq (tgt := 764) hx hb dL_law_330 (by decide) (fun c52 => ?_) (fun c52 => ?_)
        · have hf := (if_pos c52).symm.trans hf
          refine lv_iinc (v := (v3 + (4 : Int32))) (lv' := [(3, .int (v3 + (4 : Int32))), (0, .ref b), (1, .ref th0), (2, .ref md0)]) hx hb dL_law_764 hl (k := 3) rfl rfl (by decide) rfl (fun ls hl => ?_)
          refine lv_goto (tgt := 18) hx hb dL_law_767 (by decide) ?_
          exact ih (v3 + (4 : Int32)) u_wheel u_trial u_pad u_sights u_telling u_seating u_turns u_firstImage u_secondImage u_md _ _ ls (lv_sub hl [1, 2, 3, 0] rfl) hP hD hS hf
        · have hf := (if_neg c52).symm.trans hf
          refine lv_iconst (v := 0) hx hb dL_law_333 (by decide) ?_
          exact absurd (Option.some.inj hf) (by decide)
      have hf := (if_neg c45).symm.trans hf
      by_cases c53 : ((xs v3.toNatClampNeg) &&& (31 : Int32)) = 9
      · have hf := (if_pos c53).symm.trans hf
        refine lv_tableIn hx hb dL_law_32 (by rw [c53]; decide) (by rw [c53]; decide) (off := 303) (tgt := 335) (by rw [c53]; rfl) (by decide) ?_
        refine lv_aload_n hx hb dL_law_335 rfl (lv_at hl 1 rfl) ?_
        obtain ⟨z54, hz_z54, hf⟩ := o_bind hf
        refine k_calli (va_runV (As := []) (rest := []) ⟨hx, hb, hml, hown, hts⟩ (c_X10_pull l D cI cZ th0 th1 th2 th3 th4 th5 th6 th7 th8 th9 wheel1 wheel2 wheel3 wheel4 H.size u_wheel z54 hz_z54) (cwV 0 hts gL_law_X10_pull rfl rfl rfl ⟨rfl, hd_X10_pull⟩ ⟨Nat.le_of_ble_eq_true rfl, Nat.le_of_ble_eq_true rfl⟩) (k_preV hK hP hD hS hA hE [0, 1, 2, 3, 4, 5] (by decide) rfl (ci := 7) rfl rfl) rfl rfl hl.1 rfl (lv_room (Nat.le_of_ble_eq_true rfl)) dL_law_336 ⟨Nat.le_of_ble_eq_true rfl, Nat.le_of_ble_eq_true rfl⟩) hP hD hS hA [0, 1, 2, 3, 4, 5] [some 0, some 1, some 2, some 3, some 4, some 5, none, none, none, none, none, none, none, none, none, none, none, none, none, none, none, none, none, none, none, none, none, none, none, none, none, none, none, none, none, none, none, none, none, none, none, none, none, none, none, none, none, none, none, none, none, none, none, none, none, none, none, none, none, none, none, none, none, none] 6 rfl (by decide) (by decide) rfl rfl (fun H locs hP hD hS => ?_)
        have hP : va_P D vwCl (ceX th0 th1 th2 th3 th4 th5 th6 th7 th8 th9 ++ (ceW cI cZ th1 wheel1 wheel2 wheel3 wheel4 u_wheel ++ (ceW cI cZ th2 trial1 trial2 trial3 trial4 u_trial ++ (ceP cI cZ th3 pad1 u_pad ++ (ceS cI cZ th4 sights1 sights2 u_sights ++ (ceT cI cZ th5 telling1 telling2 telling3 telling4 telling5 u_telling ++ (ceG cI cZ th6 seating1 seating2 seating3 seating4 seating5 seating6 u_seating ++ (ceU cI cZ th7 turns1 turns2 turns3 turns4 turns5 turns6 u_turns ++ (ceI cI cZ th8 firstImage1 firstImage2 firstImage3 firstImage4 firstImage5 firstImage6 firstImage7 firstImage8 u_firstImage ++ (ceI cI cZ th9 secondImage1 secondImage2 secondImage3 secondImage4 secondImage5 secondImage6 secondImage7 secondImage8 u_secondImage ++ (ceM cI cZ md0 md1 md2 md3 md4 md5 md6 md7 md8 md9 u_md))))))))))) H := hP
        have hD : va_D A (ceX th0 th1 th2 th3 th4 th5 th6 th7 th8 th9 ++ (ceW cI cZ th1 wheel1 wheel2 wheel3 wheel4 u_wheel ++ (ceW cI cZ th2 trial1 trial2 trial3 trial4 u_trial ++ (ceP cI cZ th3 pad1 u_pad ++ (ceS cI cZ th4 sights1 sights2 u_sights ++ (ceT cI cZ th5 telling1 telling2 telling3 telling4 telling5 u_telling ++ (ceG cI cZ th6 seating1 seating2 seating3 seating4 seating5 seating6 u_seating ++ (ceU cI cZ th7 turns1 turns2 turns3 turns4 turns5 turns6 u_turns ++ (ceI cI cZ th8 firstImage1 firstImage2 firstImage3 firstImage4 firstImage5 firstImage6 firstImage7 firstImage8 u_firstImage ++ (ceI cI cZ th9 secondImage1 secondImage2 secondImage3 secondImage4 secondImage5 secondImage6 secondImage7 secondImage8 u_secondImage ++ (ceM cI cZ md0 md1 md2 md3 md4 md5 md6 md7 md8 md9 u_md))))))))))) := hD
        refine lv_aload_n hx hb dL_law_339 rfl (lv_at hl 2 rfl) ?_
        obtain ⟨z55, hz_z55, hf⟩ := o_bind hf
        refine k_calli (va_runV (As := []) (rest := [.int z54.1]) ⟨hx, hb, hml, hown, hts⟩ (c_X11_pull l D cI cZ md0 md1 md2 md3 md4 md5 md6 md7 md8 md9 H.size u_md z55 hz_z55) (cwV 0 hts gL_law_X11_pull rfl rfl rfl ⟨rfl, hd_X11_pull⟩ ⟨Nat.le_of_ble_eq_true rfl, Nat.le_of_ble_eq_true rfl⟩) (k_preV hK hP hD hS hA hE [54, 55, 56, 57, 58, 59, 60, 61, 62, 63] (by decide) rfl (ci := 8) rfl rfl) rfl rfl hl.1 rfl (lv_room (Nat.le_of_ble_eq_true rfl)) dL_law_340 ⟨Nat.le_of_ble_eq_true rfl, Nat.le_of_ble_eq_true rfl⟩) hP hD hS hA [54, 55, 56, 57, 58, 59, 60, 61, 62, 63] [none, none, none, none, none, none, none, none, none, none, none, none, none, none, none, none, none, none, none, none, none, none, none, none, none, none, none, none, none, none, none, none, none, none, none, none, none, none, none, none, none, none, none, none, none, none, none, none, none, none, none, none, none, none, some 0, some 1, some 2, some 3, some 4, some 5, some 6, some 7, some 8, some 9] 10 rfl (by decide) (by decide) rfl rfl (fun H locs hP hD hS => ?_)
        have hP : va_P D vwCl (ceX th0 th1 th2 th3 th4 th5 th6 th7 th8 th9 ++ (ceW cI cZ th1 wheel1 wheel2 wheel3 wheel4 u_wheel ++ (ceW cI cZ th2 trial1 trial2 trial3 trial4 u_trial ++ (ceP cI cZ th3 pad1 u_pad ++ (ceS cI cZ th4 sights1 sights2 u_sights ++ (ceT cI cZ th5 telling1 telling2 telling3 telling4 telling5 u_telling ++ (ceG cI cZ th6 seating1 seating2 seating3 seating4 seating5 seating6 u_seating ++ (ceU cI cZ th7 turns1 turns2 turns3 turns4 turns5 turns6 u_turns ++ (ceI cI cZ th8 firstImage1 firstImage2 firstImage3 firstImage4 firstImage5 firstImage6 firstImage7 firstImage8 u_firstImage ++ (ceI cI cZ th9 secondImage1 secondImage2 secondImage3 secondImage4 secondImage5 secondImage6 secondImage7 secondImage8 u_secondImage ++ (ceM cI cZ md0 md1 md2 md3 md4 md5 md6 md7 md8 md9 z55.2))))))))))) H := hP
        have hD : va_D A (ceX th0 th1 th2 th3 th4 th5 th6 th7 th8 th9 ++ (ceW cI cZ th1 wheel1 wheel2 wheel3 wheel4 u_wheel ++ (ceW cI cZ th2 trial1 trial2 trial3 trial4 u_trial ++ (ceP cI cZ th3 pad1 u_pad ++ (ceS cI cZ th4 sights1 sights2 u_sights ++ (ceT cI cZ th5 telling1 telling2 telling3 telling4 telling5 u_telling ++ (ceG cI cZ th6 seating1 seating2 seating3 seating4 seating5 seating6 u_seating ++ (ceU cI cZ th7 turns1 turns2 turns3 turns4 turns5 turns6 u_turns ++ (ceI cI cZ th8 firstImage1 firstImage2 firstImage3 firstImage4 firstImage5 firstImage6 firstImage7 firstImage8 u_firstImage ++ (ceI cI cZ th9 secondImage1 secondImage2 secondImage3 secondImage4 secondImage5 secondImage6 secondImage7 secondImage8 u_secondImage ++ (ceM cI cZ md0 md1 md2 md3 md4 md5 md6 md7 md8 md9 z55.2))))))))))) := hD
        refine lv_icmp_eq (tgt := 764) hx hb dL_law_343 (by decide) (fun c56 => ?_) (fun c56 => ?_)
        · have hf := (if_pos c56).symm.trans hf
          refine lv_iinc (v := (v3 + (4 : Int32))) (lv' := [(3, .int (v3 + (4 : Int32))), (0, .ref b), (1, .ref th0), (2, .ref md0)]) hx hb dL_law_764 hl (k := 3) rfl rfl (by decide) rfl (fun ls hl => ?_)
          refine lv_goto (tgt := 18) hx hb dL_law_767 (by decide) ?_
          exact ih (v3 + (4 : Int32)) u_wheel u_trial u_pad u_sights u_telling u_seating u_turns u_firstImage u_secondImage z55.2 _ _ ls (lv_sub hl [1, 2, 3, 0] rfl) hP hD hS hf
        · have hf := (if_neg c56).symm.trans hf
          refine lv_iconst (v := 0) hx hb dL_law_346 (by decide) ?_
          exact absurd (Option.some.inj hf) (by decide)
      have hf := (if_neg c53).symm.trans hf
      by_cases c57 : ((xs v3.toNatClampNeg) &&& (31 : Int32)) = 10
      · have hf := (if_pos c57).symm.trans hf
        refine lv_tableIn hx hb dL_law_32 (by rw [c57]; decide) (by rw [c57]; decide) (off := 316) (tgt := 348) (by rw [c57]; rfl) (by decide) ?_
        refine lv_aload_n hx hb dL_law_348 rfl (lv_at hl 1 rfl) ?_
        refine lv_aload_n hx hb dL_law_349 rfl (lv_at hl 0 rfl) ?_
        refine lv_iload_n hx hb dL_law_350 rfl (lv_at hl 3 rfl) ?_
        refine lv_iconst (v := 1) hx hb dL_law_351 (by decide) ?_
        refine lv_iadd hx hb dL_law_352 ?_
        by_cases c58 : (v3 + (1 : Int32)) < 0 ∨ L ≤ (v3 + (1 : Int32)).toNatClampNeg
        · have hf := (if_pos c58).symm.trans hf
          cases hf
        have hf := (if_neg c58).symm.trans hf
        refine va_sld hx hb hX hbl hbA hS (show vp_in (v3 + (1 : Int32)) L from c58) dL_law_353 ?_
        obtain ⟨z59, hz_z59, hf⟩ := o_bind hf
        refine k_calli (va_runV (As := [.int (xs (v3 + (1 : Int32)).toNatClampNeg)]) (rest := []) ⟨hx, hb, hml, hown, hts⟩ (c_X10_behind l D cI cZ th0 th1 th2 th3 th4 th5 th6 th7 th8 th9 wheel1 wheel2 wheel3 wheel4 pad1 telling1 telling2 telling3 telling4 telling5 H.size u_wheel u_pad u_telling (xs (v3 + (1 : Int32)).toNatClampNeg) z59 hz_z59) (cwV 1 hts gL_law_X10_behind rfl rfl rfl ⟨rfl, hd_X10_behind⟩ ⟨Nat.le_of_ble_eq_true rfl, Nat.le_of_ble_eq_true rfl⟩) (k_preV hK hP hD hS hA hE [0, 1, 2, 3, 4, 5, 11, 12, 16, 17, 18, 19, 20, 21] (by decide) rfl (ci := 7) rfl rfl) rfl rfl hl.1 rfl (lv_room (Nat.le_of_ble_eq_true rfl)) dL_law_354 ⟨Nat.le_of_ble_eq_true rfl, Nat.le_of_ble_eq_true rfl⟩) hP hD hS hA [0, 1, 2, 3, 4, 5, 11, 12, 16, 17, 18, 19, 20, 21] [some 0, some 1, some 2, some 3, some 4, some 5, none, none, none, none, none, some 6, some 7, none, none, none, some 8, some 9, some 10, some 11, some 12, some 13, none, none, none, none, none, none, none, none, none, none, none, none, none, none, none, none, none, none, none, none, none, none, none, none, none, none, none, none, none, none, none, none, none, none, none, none, none, none, none, none, none, none] 14 rfl (by decide) (by decide) rfl rfl (fun H locs hP hD hS => ?_)
        have hP : va_P D vwCl (ceX th0 th1 th2 th3 th4 th5 th6 th7 th8 th9 ++ (ceW cI cZ th1 wheel1 wheel2 wheel3 wheel4 u_wheel ++ (ceW cI cZ th2 trial1 trial2 trial3 trial4 u_trial ++ (ceP cI cZ th3 pad1 u_pad ++ (ceS cI cZ th4 sights1 sights2 u_sights ++ (ceT cI cZ th5 telling1 telling2 telling3 telling4 telling5 z59.2 ++ (ceG cI cZ th6 seating1 seating2 seating3 seating4 seating5 seating6 u_seating ++ (ceU cI cZ th7 turns1 turns2 turns3 turns4 turns5 turns6 u_turns ++ (ceI cI cZ th8 firstImage1 firstImage2 firstImage3 firstImage4 firstImage5 firstImage6 firstImage7 firstImage8 u_firstImage ++ (ceI cI cZ th9 secondImage1 secondImage2 secondImage3 secondImage4 secondImage5 secondImage6 secondImage7 secondImage8 u_secondImage ++ (ceM cI cZ md0 md1 md2 md3 md4 md5 md6 md7 md8 md9 u_md))))))))))) H := hP
        have hD : va_D A (ceX th0 th1 th2 th3 th4 th5 th6 th7 th8 th9 ++ (ceW cI cZ th1 wheel1 wheel2 wheel3 wheel4 u_wheel ++ (ceW cI cZ th2 trial1 trial2 trial3 trial4 u_trial ++ (ceP cI cZ th3 pad1 u_pad ++ (ceS cI cZ th4 sights1 sights2 u_sights ++ (ceT cI cZ th5 telling1 telling2 telling3 telling4 telling5 z59.2 ++ (ceG cI cZ th6 seating1 seating2 seating3 seating4 seating5 seating6 u_seating ++ (ceU cI cZ th7 turns1 turns2 turns3 turns4 turns5 turns6 u_turns ++ (ceI cI cZ th8 firstImage1 firstImage2 firstImage3 firstImage4 firstImage5 firstImage6 firstImage7 firstImage8 u_firstImage ++ (ceI cI cZ th9 secondImage1 secondImage2 secondImage3 secondImage4 secondImage5 secondImage6 secondImage7 secondImage8 u_secondImage ++ (ceM cI cZ md0 md1 md2 md3 md4 md5 md6 md7 md8 md9 u_md))))))))))) := hD
        refine lv_aload_n hx hb dL_law_357 rfl (lv_at hl 2 rfl) ?_
        refine lv_aload_n hx hb dL_law_358 rfl (lv_at hl 0 rfl) ?_
        refine lv_iload_n hx hb dL_law_359 rfl (lv_at hl 3 rfl) ?_
        refine lv_iconst (v := 1) hx hb dL_law_360 (by decide) ?_
        refine lv_iadd hx hb dL_law_361 ?_
        by_cases c60 : (v3 + (1 : Int32)) < 0 ∨ L ≤ (v3 + (1 : Int32)).toNatClampNeg
        · have hf := (if_pos c60).symm.trans hf
          cases hf
        have hf := (if_neg c60).symm.trans hf
        refine va_sld hx hb hX hbl hbA hS (show vp_in (v3 + (1 : Int32)) L from c60) dL_law_362 ?_
        obtain ⟨z61, hz_z61, hf⟩ := o_bind hf
        refine k_calli (va_runV (As := [.int (xs (v3 + (1 : Int32)).toNatClampNeg)]) (rest := [.int z59.1]) ⟨hx, hb, hml, hown, hts⟩ (c_X11_behind l D cI cZ md0 md1 md2 md3 md4 md5 md6 md7 md8 md9 H.size u_md (xs (v3 + (1 : Int32)).toNatClampNeg) z61 hz_z61) (cwV 1 hts gL_law_X11_behind rfl rfl rfl ⟨rfl, hd_X11_behind⟩ ⟨Nat.le_of_ble_eq_true rfl, Nat.le_of_ble_eq_true rfl⟩) (k_preV hK hP hD hS hA hE [54, 55, 56, 57, 58, 59, 60, 61, 62, 63] (by decide) rfl (ci := 8) rfl rfl) rfl rfl hl.1 rfl (lv_room (Nat.le_of_ble_eq_true rfl)) dL_law_363 ⟨Nat.le_of_ble_eq_true rfl, Nat.le_of_ble_eq_true rfl⟩) hP hD hS hA [54, 55, 56, 57, 58, 59, 60, 61, 62, 63] [none, none, none, none, none, none, none, none, none, none, none, none, none, none, none, none, none, none, none, none, none, none, none, none, none, none, none, none, none, none, none, none, none, none, none, none, none, none, none, none, none, none, none, none, none, none, none, none, none, none, none, none, none, none, some 0, some 1, some 2, some 3, some 4, some 5, some 6, some 7, some 8, some 9] 10 rfl (by decide) (by decide) rfl rfl (fun H locs hP hD hS => ?_)
        have hP : va_P D vwCl (ceX th0 th1 th2 th3 th4 th5 th6 th7 th8 th9 ++ (ceW cI cZ th1 wheel1 wheel2 wheel3 wheel4 u_wheel ++ (ceW cI cZ th2 trial1 trial2 trial3 trial4 u_trial ++ (ceP cI cZ th3 pad1 u_pad ++ (ceS cI cZ th4 sights1 sights2 u_sights ++ (ceT cI cZ th5 telling1 telling2 telling3 telling4 telling5 z59.2 ++ (ceG cI cZ th6 seating1 seating2 seating3 seating4 seating5 seating6 u_seating ++ (ceU cI cZ th7 turns1 turns2 turns3 turns4 turns5 turns6 u_turns ++ (ceI cI cZ th8 firstImage1 firstImage2 firstImage3 firstImage4 firstImage5 firstImage6 firstImage7 firstImage8 u_firstImage ++ (ceI cI cZ th9 secondImage1 secondImage2 secondImage3 secondImage4 secondImage5 secondImage6 secondImage7 secondImage8 u_secondImage ++ (ceM cI cZ md0 md1 md2 md3 md4 md5 md6 md7 md8 md9 z61.2))))))))))) H := hP
        have hD : va_D A (ceX th0 th1 th2 th3 th4 th5 th6 th7 th8 th9 ++ (ceW cI cZ th1 wheel1 wheel2 wheel3 wheel4 u_wheel ++ (ceW cI cZ th2 trial1 trial2 trial3 trial4 u_trial ++ (ceP cI cZ th3 pad1 u_pad ++ (ceS cI cZ th4 sights1 sights2 u_sights ++ (ceT cI cZ th5 telling1 telling2 telling3 telling4 telling5 z59.2 ++ (ceG cI cZ th6 seating1 seating2 seating3 seating4 seating5 seating6 u_seating ++ (ceU cI cZ th7 turns1 turns2 turns3 turns4 turns5 turns6 u_turns ++ (ceI cI cZ th8 firstImage1 firstImage2 firstImage3 firstImage4 firstImage5 firstImage6 firstImage7 firstImage8 u_firstImage ++ (ceI cI cZ th9 secondImage1 secondImage2 secondImage3 secondImage4 secondImage5 secondImage6 secondImage7 secondImage8 u_secondImage ++ (ceM cI cZ md0 md1 md2 md3 md4 md5 md6 md7 md8 md9 z61.2))))))))))) := hD
        refine lv_icmp_eq (tgt := 764) hx hb dL_law_366 (by decide) (fun c62 => ?_) (fun c62 => ?_)
        · have hf := (if_pos c62).symm.trans hf
          refine lv_iinc (v := (v3 + (4 : Int32))) (lv' := [(3, .int (v3 + (4 : Int32))), (0, .ref b), (1, .ref th0), (2, .ref md0)]) hx hb dL_law_764 hl (k := 3) rfl rfl (by decide) rfl (fun ls hl => ?_)
          refine lv_goto (tgt := 18) hx hb dL_law_767 (by decide) ?_
          exact ih (v3 + (4 : Int32)) u_wheel u_trial u_pad u_sights z59.2 u_seating u_turns u_firstImage u_secondImage z61.2 _ _ ls (lv_sub hl [1, 2, 3, 0] rfl) hP hD hS hf
        · have hf := (if_neg c62).symm.trans hf
          refine lv_iconst (v := 0) hx hb dL_law_369 (by decide) ?_
          exact absurd (Option.some.inj hf) (by decide)
      have hf := (if_neg c57).symm.trans hf
      by_cases c63 : ((xs v3.toNatClampNeg) &&& (31 : Int32)) = 11
      · have hf := (if_pos c63).symm.trans hf
        refine lv_tableIn hx hb dL_law_32 (by rw [c63]; decide) (by rw [c63]; decide) (off := 339) (tgt := 371) (by rw [c63]; rfl) (by decide) ?_
        refine lv_aload_n hx hb dL_law_371 rfl (lv_at hl 1 rfl) ?_
        refine lv_aload_n hx hb dL_law_372 rfl (lv_at hl 0 rfl) ?_
        refine lv_iload_n hx hb dL_law_373 rfl (lv_at hl 3 rfl) ?_
        refine lv_iconst (v := 1) hx hb dL_law_374 (by decide) ?_
        refine lv_iadd hx hb dL_law_375 ?_
        by_cases c64 : (v3 + (1 : Int32)) < 0 ∨ L ≤ (v3 + (1 : Int32)).toNatClampNeg
        · have hf := (if_pos c64).symm.trans hf
          cases hf
        have hf := (if_neg c64).symm.trans hf
        refine va_sld hx hb hX hbl hbA hS (show vp_in (v3 + (1 : Int32)) L from c64) dL_law_376 ?_
        obtain ⟨z65, hz_z65, hf⟩ := o_bind hf
        refine k_calli (va_runV (As := [.int (xs (v3 + (1 : Int32)).toNatClampNeg)]) (rest := []) ⟨hx, hb, hml, hown, hts⟩ (c_X10_leftOut l D cI cZ th0 th1 th2 th3 th4 th5 th6 th7 th8 th9 wheel1 wheel2 wheel3 wheel4 pad1 telling1 telling2 telling3 telling4 telling5 H.size u_wheel u_pad u_telling (xs (v3 + (1 : Int32)).toNatClampNeg) z65 hz_z65) (cwV 1 hts gL_law_X10_leftOut rfl rfl rfl ⟨rfl, hd_X10_leftOut⟩ ⟨Nat.le_of_ble_eq_true rfl, Nat.le_of_ble_eq_true rfl⟩) (k_preV hK hP hD hS hA hE [0, 1, 2, 3, 4, 5, 11, 12, 16, 17, 18, 19, 20, 21] (by decide) rfl (ci := 7) rfl rfl) rfl rfl hl.1 rfl (lv_room (Nat.le_of_ble_eq_true rfl)) dL_law_377 ⟨Nat.le_of_ble_eq_true rfl, Nat.le_of_ble_eq_true rfl⟩) hP hD hS hA [0, 1, 2, 3, 4, 5, 11, 12, 16, 17, 18, 19, 20, 21] [some 0, some 1, some 2, some 3, some 4, some 5, none, none, none, none, none, some 6, some 7, none, none, none, some 8, some 9, some 10, some 11, some 12, some 13, none, none, none, none, none, none, none, none, none, none, none, none, none, none, none, none, none, none, none, none, none, none, none, none, none, none, none, none, none, none, none, none, none, none, none, none, none, none, none, none, none, none] 14 rfl (by decide) (by decide) rfl rfl (fun H locs hP hD hS => ?_)
        have hP : va_P D vwCl (ceX th0 th1 th2 th3 th4 th5 th6 th7 th8 th9 ++ (ceW cI cZ th1 wheel1 wheel2 wheel3 wheel4 u_wheel ++ (ceW cI cZ th2 trial1 trial2 trial3 trial4 u_trial ++ (ceP cI cZ th3 pad1 u_pad ++ (ceS cI cZ th4 sights1 sights2 u_sights ++ (ceT cI cZ th5 telling1 telling2 telling3 telling4 telling5 z65.2 ++ (ceG cI cZ th6 seating1 seating2 seating3 seating4 seating5 seating6 u_seating ++ (ceU cI cZ th7 turns1 turns2 turns3 turns4 turns5 turns6 u_turns ++ (ceI cI cZ th8 firstImage1 firstImage2 firstImage3 firstImage4 firstImage5 firstImage6 firstImage7 firstImage8 u_firstImage ++ (ceI cI cZ th9 secondImage1 secondImage2 secondImage3 secondImage4 secondImage5 secondImage6 secondImage7 secondImage8 u_secondImage ++ (ceM cI cZ md0 md1 md2 md3 md4 md5 md6 md7 md8 md9 u_md))))))))))) H := hP
        have hD : va_D A (ceX th0 th1 th2 th3 th4 th5 th6 th7 th8 th9 ++ (ceW cI cZ th1 wheel1 wheel2 wheel3 wheel4 u_wheel ++ (ceW cI cZ th2 trial1 trial2 trial3 trial4 u_trial ++ (ceP cI cZ th3 pad1 u_pad ++ (ceS cI cZ th4 sights1 sights2 u_sights ++ (ceT cI cZ th5 telling1 telling2 telling3 telling4 telling5 z65.2 ++ (ceG cI cZ th6 seating1 seating2 seating3 seating4 seating5 seating6 u_seating ++ (ceU cI cZ th7 turns1 turns2 turns3 turns4 turns5 turns6 u_turns ++ (ceI cI cZ th8 firstImage1 firstImage2 firstImage3 firstImage4 firstImage5 firstImage6 firstImage7 firstImage8 u_firstImage ++ (ceI cI cZ th9 secondImage1 secondImage2 secondImage3 secondImage4 secondImage5 secondImage6 secondImage7 secondImage8 u_secondImage ++ (ceM cI cZ md0 md1 md2 md3 md4 md5 md6 md7 md8 md9 u_md))))))))))) := hD
        refine lv_aload_n hx hb dL_law_380 rfl (lv_at hl 2 rfl) ?_
        refine lv_aload_n hx hb dL_law_381 rfl (lv_at hl 0 rfl) ?_
        refine lv_iload_n hx hb dL_law_382 rfl (lv_at hl 3 rfl) ?_
        refine lv_iconst (v := 1) hx hb dL_law_383 (by decide) ?_
        refine lv_iadd hx hb dL_law_384 ?_
        by_cases c66 : (v3 + (1 : Int32)) < 0 ∨ L ≤ (v3 + (1 : Int32)).toNatClampNeg
        · have hf := (if_pos c66).symm.trans hf
          cases hf
        have hf := (if_neg c66).symm.trans hf
        refine va_sld hx hb hX hbl hbA hS (show vp_in (v3 + (1 : Int32)) L from c66) dL_law_385 ?_
        obtain ⟨z67, hz_z67, hf⟩ := o_bind hf
        refine k_calli (va_runV (As := [.int (xs (v3 + (1 : Int32)).toNatClampNeg)]) (rest := [.int z65.1]) ⟨hx, hb, hml, hown, hts⟩ (c_X11_leftOut l D cI cZ md0 md1 md2 md3 md4 md5 md6 md7 md8 md9 H.size u_md (xs (v3 + (1 : Int32)).toNatClampNeg) z67 hz_z67) (cwV 1 hts gL_law_X11_leftOut rfl rfl rfl ⟨rfl, hd_X11_leftOut⟩ ⟨Nat.le_of_ble_eq_true rfl, Nat.le_of_ble_eq_true rfl⟩) (k_preV hK hP hD hS hA hE [54, 55, 56, 57, 58, 59, 60, 61, 62, 63] (by decide) rfl (ci := 8) rfl rfl) rfl rfl hl.1 rfl (lv_room (Nat.le_of_ble_eq_true rfl)) dL_law_386 ⟨Nat.le_of_ble_eq_true rfl, Nat.le_of_ble_eq_true rfl⟩) hP hD hS hA [54, 55, 56, 57, 58, 59, 60, 61, 62, 63] [none, none, none, none, none, none, none, none, none, none, none, none, none, none, none, none, none, none, none, none, none, none, none, none, none, none, none, none, none, none, none, none, none, none, none, none, none, none, none, none, none, none, none, none, none, none, none, none, none, none, none, none, none, none, some 0, some 1, some 2, some 3, some 4, some 5, some 6, some 7, some 8, some 9] 10 rfl (by decide) (by decide) rfl rfl (fun H locs hP hD hS => ?_)
        have hP : va_P D vwCl (ceX th0 th1 th2 th3 th4 th5 th6 th7 th8 th9 ++ (ceW cI cZ th1 wheel1 wheel2 wheel3 wheel4 u_wheel ++ (ceW cI cZ th2 trial1 trial2 trial3 trial4 u_trial ++ (ceP cI cZ th3 pad1 u_pad ++ (ceS cI cZ th4 sights1 sights2 u_sights ++ (ceT cI cZ th5 telling1 telling2 telling3 telling4 telling5 z65.2 ++ (ceG cI cZ th6 seating1 seating2 seating3 seating4 seating5 seating6 u_seating ++ (ceU cI cZ th7 turns1 turns2 turns3 turns4 turns5 turns6 u_turns ++ (ceI cI cZ th8 firstImage1 firstImage2 firstImage3 firstImage4 firstImage5 firstImage6 firstImage7 firstImage8 u_firstImage ++ (ceI cI cZ th9 secondImage1 secondImage2 secondImage3 secondImage4 secondImage5 secondImage6 secondImage7 secondImage8 u_secondImage ++ (ceM cI cZ md0 md1 md2 md3 md4 md5 md6 md7 md8 md9 z67.2))))))))))) H := hP
        have hD : va_D A (ceX th0 th1 th2 th3 th4 th5 th6 th7 th8 th9 ++ (ceW cI cZ th1 wheel1 wheel2 wheel3 wheel4 u_wheel ++ (ceW cI cZ th2 trial1 trial2 trial3 trial4 u_trial ++ (ceP cI cZ th3 pad1 u_pad ++ (ceS cI cZ th4 sights1 sights2 u_sights ++ (ceT cI cZ th5 telling1 telling2 telling3 telling4 telling5 z65.2 ++ (ceG cI cZ th6 seating1 seating2 seating3 seating4 seating5 seating6 u_seating ++ (ceU cI cZ th7 turns1 turns2 turns3 turns4 turns5 turns6 u_turns ++ (ceI cI cZ th8 firstImage1 firstImage2 firstImage3 firstImage4 firstImage5 firstImage6 firstImage7 firstImage8 u_firstImage ++ (ceI cI cZ th9 secondImage1 secondImage2 secondImage3 secondImage4 secondImage5 secondImage6 secondImage7 secondImage8 u_secondImage ++ (ceM cI cZ md0 md1 md2 md3 md4 md5 md6 md7 md8 md9 z67.2))))))))))) := hD
        refine lv_icmp_eq (tgt := 764) hx hb dL_law_389 (by decide) (fun c68 => ?_) (fun c68 => ?_)
        · have hf := (if_pos c68).symm.trans hf
          refine lv_iinc (v := (v3 + (4 : Int32))) (lv' := [(3, .int (v3 + (4 : Int32))), (0, .ref b), (1, .ref th0), (2, .ref md0)]) hx hb dL_law_764 hl (k := 3) rfl rfl (by decide) rfl (fun ls hl => ?_)
          refine lv_goto (tgt := 18) hx hb dL_law_767 (by decide) ?_
          exact ih (v3 + (4 : Int32)) u_wheel u_trial u_pad u_sights z65.2 u_seating u_turns u_firstImage u_secondImage z67.2 _ _ ls (lv_sub hl [1, 2, 3, 0] rfl) hP hD hS hf
        · have hf := (if_neg c68).symm.trans hf
          refine lv_iconst (v := 0) hx hb dL_law_392 (by decide) ?_
          exact absurd (Option.some.inj hf) (by decide)
      have hf := (if_neg c63).symm.trans hf
      by_cases c69 : ((xs v3.toNatClampNeg) &&& (31 : Int32)) = 12
      · have hf := (if_pos c69).symm.trans hf
        refine lv_tableIn hx hb dL_law_32 (by rw [c69]; decide) (by rw [c69]; decide) (off := 362) (tgt := 394) (by rw [c69]; rfl) (by decide) ?_
        refine lv_aload_n hx hb dL_law_394 rfl (lv_at hl 1 rfl) ?_
        refine lv_aload_n hx hb dL_law_395 rfl (lv_at hl 0 rfl) ?_
        refine lv_iload_n hx hb dL_law_396 rfl (lv_at hl 3 rfl) ?_
        refine lv_iconst (v := 1) hx hb dL_law_397 (by decide) ?_
        refine lv_iadd hx hb dL_law_398 ?_
        by_cases c70 : (v3 + (1 : Int32)) < 0 ∨ L ≤ (v3 + (1 : Int32)).toNatClampNeg
        · have hf := (if_pos c70).symm.trans hf
          cases hf
        have hf := (if_neg c70).symm.trans hf
        refine va_sld hx hb hX hbl hbA hS (show vp_in (v3 + (1 : Int32)) L from c70) dL_law_399 ?_
        refine lv_aload_n hx hb dL_law_400 rfl (lv_at hl 0 rfl) ?_
        refine lv_iload_n hx hb dL_law_401 rfl (lv_at hl 3 rfl) ?_
        refine lv_iconst (v := 2) hx hb dL_law_402 (by decide) ?_
        refine lv_iadd hx hb dL_law_403 ?_
        by_cases c71 : (v3 + (2 : Int32)) < 0 ∨ L ≤ (v3 + (2 : Int32)).toNatClampNeg
        · have hf := (if_pos c71).symm.trans hf
          cases hf
        have hf := (if_neg c71).symm.trans hf
        refine va_sld hx hb hX hbl hbA hS (show vp_in (v3 + (2 : Int32)) L from c71) dL_law_404 ?_
        obtain ⟨z72, hz_z72, hf⟩ := o_bind hf
        refine k_calli (va_runV (As := [.int (xs (v3 + (1 : Int32)).toNatClampNeg), .int (xs (v3 + (2 : Int32)).toNatClampNeg)]) (rest := []) ⟨hx, hb, hml, hown, hts⟩ (c_X10_down l D cI cZ th0 th1 th2 th3 th4 th5 th6 th7 th8 th9 wheel1 wheel2 wheel3 wheel4 trial1 trial2 trial3 trial4 H.size u_wheel u_trial (xs (v3 + (1 : Int32)).toNatClampNeg) (xs (v3 + (2 : Int32)).toNatClampNeg) z72 hz_z72) (cwV 2 hts gL_law_X10_down rfl rfl rfl ⟨rfl, hd_X10_down⟩ ⟨Nat.le_of_ble_eq_true rfl, Nat.le_of_ble_eq_true rfl⟩) (k_preV hK hP hD hS hA hE [0, 1, 2, 3, 4, 5, 6, 7, 8, 9, 10] (by decide) rfl (ci := 7) rfl rfl) rfl rfl hl.1 rfl (lv_room (Nat.le_of_ble_eq_true rfl)) dL_law_405 ⟨Nat.le_of_ble_eq_true rfl, Nat.le_of_ble_eq_true rfl⟩) hP hD hS hA [0, 1, 2, 3, 4, 5, 6, 7, 8, 9, 10] [some 0, some 1, some 2, some 3, some 4, some 5, some 6, some 7, some 8, some 9, some 10, none, none, none, none, none, none, none, none, none, none, none, none, none, none, none, none, none, none, none, none, none, none, none, none, none, none, none, none, none, none, none, none, none, none, none, none, none, none, none, none, none, none, none, none, none, none, none, none, none, none, none, none, none] 11 rfl (by decide) (by decide) rfl rfl (fun H locs hP hD hS => ?_)
        have hP : va_P D vwCl (ceX th0 th1 th2 th3 th4 th5 th6 th7 th8 th9 ++ (ceW cI cZ th1 wheel1 wheel2 wheel3 wheel4 u_wheel ++ (ceW cI cZ th2 trial1 trial2 trial3 trial4 z72.2 ++ (ceP cI cZ th3 pad1 u_pad ++ (ceS cI cZ th4 sights1 sights2 u_sights ++ (ceT cI cZ th5 telling1 telling2 telling3 telling4 telling5 u_telling ++ (ceG cI cZ th6 seating1 seating2 seating3 seating4 seating5 seating6 u_seating ++ (ceU cI cZ th7 turns1 turns2 turns3 turns4 turns5 turns6 u_turns ++ (ceI cI cZ th8 firstImage1 firstImage2 firstImage3 firstImage4 firstImage5 firstImage6 firstImage7 firstImage8 u_firstImage ++ (ceI cI cZ th9 secondImage1 secondImage2 secondImage3 secondImage4 secondImage5 secondImage6 secondImage7 secondImage8 u_secondImage ++ (ceM cI cZ md0 md1 md2 md3 md4 md5 md6 md7 md8 md9 u_md))))))))))) H := hP
        have hD : va_D A (ceX th0 th1 th2 th3 th4 th5 th6 th7 th8 th9 ++ (ceW cI cZ th1 wheel1 wheel2 wheel3 wheel4 u_wheel ++ (ceW cI cZ th2 trial1 trial2 trial3 trial4 z72.2 ++ (ceP cI cZ th3 pad1 u_pad ++ (ceS cI cZ th4 sights1 sights2 u_sights ++ (ceT cI cZ th5 telling1 telling2 telling3 telling4 telling5 u_telling ++ (ceG cI cZ th6 seating1 seating2 seating3 seating4 seating5 seating6 u_seating ++ (ceU cI cZ th7 turns1 turns2 turns3 turns4 turns5 turns6 u_turns ++ (ceI cI cZ th8 firstImage1 firstImage2 firstImage3 firstImage4 firstImage5 firstImage6 firstImage7 firstImage8 u_firstImage ++ (ceI cI cZ th9 secondImage1 secondImage2 secondImage3 secondImage4 secondImage5 secondImage6 secondImage7 secondImage8 u_secondImage ++ (ceM cI cZ md0 md1 md2 md3 md4 md5 md6 md7 md8 md9 u_md))))))))))) := hD
        refine lv_aload_n hx hb dL_law_408 rfl (lv_at hl 2 rfl) ?_
        refine lv_aload_n hx hb dL_law_409 rfl (lv_at hl 0 rfl) ?_
        refine lv_iload_n hx hb dL_law_410 rfl (lv_at hl 3 rfl) ?_
        refine lv_iconst (v := 1) hx hb dL_law_411 (by decide) ?_
        refine lv_iadd hx hb dL_law_412 ?_
        by_cases c73 : (v3 + (1 : Int32)) < 0 ∨ L ≤ (v3 + (1 : Int32)).toNatClampNeg
        · have hf := (if_pos c73).symm.trans hf
          cases hf
        have hf := (if_neg c73).symm.trans hf
        refine va_sld hx hb hX hbl hbA hS (show vp_in (v3 + (1 : Int32)) L from c73) dL_law_413 ?_
        refine lv_aload_n hx hb dL_law_414 rfl (lv_at hl 0 rfl) ?_
        refine lv_iload_n hx hb dL_law_415 rfl (lv_at hl 3 rfl) ?_
        refine lv_iconst (v := 2) hx hb dL_law_416 (by decide) ?_
        refine lv_iadd hx hb dL_law_417 ?_
        by_cases c74 : (v3 + (2 : Int32)) < 0 ∨ L ≤ (v3 + (2 : Int32)).toNatClampNeg
        · have hf := (if_pos c74).symm.trans hf
          cases hf
        have hf := (if_neg c74).symm.trans hf
        refine va_sld hx hb hX hbl hbA hS (show vp_in (v3 + (2 : Int32)) L from c74) dL_law_418 ?_
        obtain ⟨z75, hz_z75, hf⟩ := o_bind hf
        refine k_calli (va_runV (As := [.int (xs (v3 + (1 : Int32)).toNatClampNeg), .int (xs (v3 + (2 : Int32)).toNatClampNeg)]) (rest := [.int z72.1]) ⟨hx, hb, hml, hown, hts⟩ (c_X11_down l D cI cZ md0 md1 md2 md3 md4 md5 md6 md7 md8 md9 H.size u_md (xs (v3 + (1 : Int32)).toNatClampNeg) (xs (v3 + (2 : Int32)).toNatClampNeg) z75 hz_z75) (cwV 2 hts gL_law_X11_down rfl rfl rfl ⟨rfl, hd_X11_down⟩ ⟨Nat.le_of_ble_eq_true rfl, Nat.le_of_ble_eq_true rfl⟩) (k_preV hK hP hD hS hA hE [54, 55, 56, 57, 58, 59, 60, 61, 62, 63] (by decide) rfl (ci := 8) rfl rfl) rfl rfl hl.1 rfl (lv_room (Nat.le_of_ble_eq_true rfl)) dL_law_419 ⟨Nat.le_of_ble_eq_true rfl, Nat.le_of_ble_eq_true rfl⟩) hP hD hS hA [54, 55, 56, 57, 58, 59, 60, 61, 62, 63] [none, none, none, none, none, none, none, none, none, none, none, none, none, none, none, none, none, none, none, none, none, none, none, none, none, none, none, none, none, none, none, none, none, none, none, none, none, none, none, none, none, none, none, none, none, none, none, none, none, none, none, none, none, none, some 0, some 1, some 2, some 3, some 4, some 5, some 6, some 7, some 8, some 9] 10 rfl (by decide) (by decide) rfl rfl (fun H locs hP hD hS => ?_)
        have hP : va_P D vwCl (ceX th0 th1 th2 th3 th4 th5 th6 th7 th8 th9 ++ (ceW cI cZ th1 wheel1 wheel2 wheel3 wheel4 u_wheel ++ (ceW cI cZ th2 trial1 trial2 trial3 trial4 z72.2 ++ (ceP cI cZ th3 pad1 u_pad ++ (ceS cI cZ th4 sights1 sights2 u_sights ++ (ceT cI cZ th5 telling1 telling2 telling3 telling4 telling5 u_telling ++ (ceG cI cZ th6 seating1 seating2 seating3 seating4 seating5 seating6 u_seating ++ (ceU cI cZ th7 turns1 turns2 turns3 turns4 turns5 turns6 u_turns ++ (ceI cI cZ th8 firstImage1 firstImage2 firstImage3 firstImage4 firstImage5 firstImage6 firstImage7 firstImage8 u_firstImage ++ (ceI cI cZ th9 secondImage1 secondImage2 secondImage3 secondImage4 secondImage5 secondImage6 secondImage7 secondImage8 u_secondImage ++ (ceM cI cZ md0 md1 md2 md3 md4 md5 md6 md7 md8 md9 z75.2))))))))))) H := hP
        have hD : va_D A (ceX th0 th1 th2 th3 th4 th5 th6 th7 th8 th9 ++ (ceW cI cZ th1 wheel1 wheel2 wheel3 wheel4 u_wheel ++ (ceW cI cZ th2 trial1 trial2 trial3 trial4 z72.2 ++ (ceP cI cZ th3 pad1 u_pad ++ (ceS cI cZ th4 sights1 sights2 u_sights ++ (ceT cI cZ th5 telling1 telling2 telling3 telling4 telling5 u_telling ++ (ceG cI cZ th6 seating1 seating2 seating3 seating4 seating5 seating6 u_seating ++ (ceU cI cZ th7 turns1 turns2 turns3 turns4 turns5 turns6 u_turns ++ (ceI cI cZ th8 firstImage1 firstImage2 firstImage3 firstImage4 firstImage5 firstImage6 firstImage7 firstImage8 u_firstImage ++ (ceI cI cZ th9 secondImage1 secondImage2 secondImage3 secondImage4 secondImage5 secondImage6 secondImage7 secondImage8 u_secondImage ++ (ceM cI cZ md0 md1 md2 md3 md4 md5 md6 md7 md8 md9 z75.2))))))))))) := hD
        refine lv_icmp_eq (tgt := 764) hx hb dL_law_422 (by decide) (fun c76 => ?_) (fun c76 => ?_)
        · have hf := (if_pos c76).symm.trans hf
          refine lv_iinc (v := (v3 + (4 : Int32))) (lv' := [(3, .int (v3 + (4 : Int32))), (0, .ref b), (1, .ref th0), (2, .ref md0)]) hx hb dL_law_764 hl (k := 3) rfl rfl (by decide) rfl (fun ls hl => ?_)
          refine lv_goto (tgt := 18) hx hb dL_law_767 (by decide) ?_
          exact ih (v3 + (4 : Int32)) u_wheel z72.2 u_pad u_sights u_telling u_seating u_turns u_firstImage u_secondImage z75.2 _ _ ls (lv_sub hl [1, 2, 3, 0] rfl) hP hD hS hf
        · have hf := (if_neg c76).symm.trans hf
          refine lv_iconst (v := 0) hx hb dL_law_425 (by decide) ?_
          exact absurd (Option.some.inj hf) (by decide)
      have hf := (if_neg c69).symm.trans hf
      by_cases c77 : ((xs v3.toNatClampNeg) &&& (31 : Int32)) = 13
      · have hf := (if_pos c77).symm.trans hf
        refine lv_tableIn hx hb dL_law_32 (by rw [c77]; decide) (by rw [c77]; decide) (off := 395) (tgt := 427) (by rw [c77]; rfl) (by decide) ?_
        refine lv_aload_n hx hb dL_law_427 rfl (lv_at hl 1 rfl) ?_
        refine lv_aload_n hx hb dL_law_428 rfl (lv_at hl 0 rfl) ?_
        refine lv_iload_n hx hb dL_law_429 rfl (lv_at hl 3 rfl) ?_
        refine lv_iconst (v := 1) hx hb dL_law_430 (by decide) ?_
        refine lv_iadd hx hb dL_law_431 ?_
        by_cases c78 : (v3 + (1 : Int32)) < 0 ∨ L ≤ (v3 + (1 : Int32)).toNatClampNeg
        · have hf := (if_pos c78).symm.trans hf
          cases hf
        have hf := (if_neg c78).symm.trans hf
        refine va_sld hx hb hX hbl hbA hS (show vp_in (v3 + (1 : Int32)) L from c78) dL_law_432 ?_
        obtain ⟨z79, hz_z79, hf⟩ := o_bind hf
        refine k_calli (va_runV (As := [.int (xs (v3 + (1 : Int32)).toNatClampNeg)]) (rest := []) ⟨hx, hb, hml, hown, hts⟩ (c_X10_pebbles l D cI cZ th0 th1 th2 th3 th4 th5 th6 th7 th8 th9 wheel1 wheel2 wheel3 wheel4 trial1 trial2 trial3 trial4 H.size u_wheel u_trial (xs (v3 + (1 : Int32)).toNatClampNeg) z79 hz_z79) (cwV 1 hts gL_law_X10_pebbles rfl rfl rfl ⟨rfl, hd_X10_pebbles⟩ ⟨Nat.le_of_ble_eq_true rfl, Nat.le_of_ble_eq_true rfl⟩) (k_preV hK hP hD hS hA hE [0, 1, 2, 3, 4, 5, 6, 7, 8, 9, 10] (by decide) rfl (ci := 7) rfl rfl) rfl rfl hl.1 rfl (lv_room (Nat.le_of_ble_eq_true rfl)) dL_law_433 ⟨Nat.le_of_ble_eq_true rfl, Nat.le_of_ble_eq_true rfl⟩) hP hD hS hA [0, 1, 2, 3, 4, 5, 6, 7, 8, 9, 10] [some 0, some 1, some 2, some 3, some 4, some 5, some 6, some 7, some 8, some 9, some 10, none, none, none, none, none, none, none, none, none, none, none, none, none, none, none, none, none, none, none, none, none, none, none, none, none, none, none, none, none, none, none, none, none, none, none, none, none, none, none, none, none, none, none, none, none, none, none, none, none, none, none, none, none] 11 rfl (by decide) (by decide) rfl rfl (fun H locs hP hD hS => ?_)
        have hP : va_P D vwCl (ceX th0 th1 th2 th3 th4 th5 th6 th7 th8 th9 ++ (ceW cI cZ th1 wheel1 wheel2 wheel3 wheel4 u_wheel ++ (ceW cI cZ th2 trial1 trial2 trial3 trial4 z79.2 ++ (ceP cI cZ th3 pad1 u_pad ++ (ceS cI cZ th4 sights1 sights2 u_sights ++ (ceT cI cZ th5 telling1 telling2 telling3 telling4 telling5 u_telling ++ (ceG cI cZ th6 seating1 seating2 seating3 seating4 seating5 seating6 u_seating ++ (ceU cI cZ th7 turns1 turns2 turns3 turns4 turns5 turns6 u_turns ++ (ceI cI cZ th8 firstImage1 firstImage2 firstImage3 firstImage4 firstImage5 firstImage6 firstImage7 firstImage8 u_firstImage ++ (ceI cI cZ th9 secondImage1 secondImage2 secondImage3 secondImage4 secondImage5 secondImage6 secondImage7 secondImage8 u_secondImage ++ (ceM cI cZ md0 md1 md2 md3 md4 md5 md6 md7 md8 md9 u_md))))))))))) H := hP
        have hD : va_D A (ceX th0 th1 th2 th3 th4 th5 th6 th7 th8 th9 ++ (ceW cI cZ th1 wheel1 wheel2 wheel3 wheel4 u_wheel ++ (ceW cI cZ th2 trial1 trial2 trial3 trial4 z79.2 ++ (ceP cI cZ th3 pad1 u_pad ++ (ceS cI cZ th4 sights1 sights2 u_sights ++ (ceT cI cZ th5 telling1 telling2 telling3 telling4 telling5 u_telling ++ (ceG cI cZ th6 seating1 seating2 seating3 seating4 seating5 seating6 u_seating ++ (ceU cI cZ th7 turns1 turns2 turns3 turns4 turns5 turns6 u_turns ++ (ceI cI cZ th8 firstImage1 firstImage2 firstImage3 firstImage4 firstImage5 firstImage6 firstImage7 firstImage8 u_firstImage ++ (ceI cI cZ th9 secondImage1 secondImage2 secondImage3 secondImage4 secondImage5 secondImage6 secondImage7 secondImage8 u_secondImage ++ (ceM cI cZ md0 md1 md2 md3 md4 md5 md6 md7 md8 md9 u_md))))))))))) := hD
        refine lv_aload_n hx hb dL_law_436 rfl (lv_at hl 2 rfl) ?_
        refine lv_aload_n hx hb dL_law_437 rfl (lv_at hl 0 rfl) ?_
        refine lv_iload_n hx hb dL_law_438 rfl (lv_at hl 3 rfl) ?_
        refine lv_iconst (v := 1) hx hb dL_law_439 (by decide) ?_
        refine lv_iadd hx hb dL_law_440 ?_
        by_cases c80 : (v3 + (1 : Int32)) < 0 ∨ L ≤ (v3 + (1 : Int32)).toNatClampNeg
        · have hf := (if_pos c80).symm.trans hf
          cases hf
        have hf := (if_neg c80).symm.trans hf
        refine va_sld hx hb hX hbl hbA hS (show vp_in (v3 + (1 : Int32)) L from c80) dL_law_441 ?_
        obtain ⟨z81, hz_z81, hf⟩ := o_bind hf
        refine k_calli (va_runV (As := [.int (xs (v3 + (1 : Int32)).toNatClampNeg)]) (rest := [.int z79.1]) ⟨hx, hb, hml, hown, hts⟩ (c_X11_pebbles l D cI cZ md0 md1 md2 md3 md4 md5 md6 md7 md8 md9 H.size u_md (xs (v3 + (1 : Int32)).toNatClampNeg) z81 hz_z81) (cwV 1 hts gL_law_X11_pebbles rfl rfl rfl ⟨rfl, hd_X11_pebbles⟩ ⟨Nat.le_of_ble_eq_true rfl, Nat.le_of_ble_eq_true rfl⟩) (k_preV hK hP hD hS hA hE [54, 55, 56, 57, 58, 59, 60, 61, 62, 63] (by decide) rfl (ci := 8) rfl rfl) rfl rfl hl.1 rfl (lv_room (Nat.le_of_ble_eq_true rfl)) dL_law_442 ⟨Nat.le_of_ble_eq_true rfl, Nat.le_of_ble_eq_true rfl⟩) hP hD hS hA [54, 55, 56, 57, 58, 59, 60, 61, 62, 63] [none, none, none, none, none, none, none, none, none, none, none, none, none, none, none, none, none, none, none, none, none, none, none, none, none, none, none, none, none, none, none, none, none, none, none, none, none, none, none, none, none, none, none, none, none, none, none, none, none, none, none, none, none, none, some 0, some 1, some 2, some 3, some 4, some 5, some 6, some 7, some 8, some 9] 10 rfl (by decide) (by decide) rfl rfl (fun H locs hP hD hS => ?_)
        have hP : va_P D vwCl (ceX th0 th1 th2 th3 th4 th5 th6 th7 th8 th9 ++ (ceW cI cZ th1 wheel1 wheel2 wheel3 wheel4 u_wheel ++ (ceW cI cZ th2 trial1 trial2 trial3 trial4 z79.2 ++ (ceP cI cZ th3 pad1 u_pad ++ (ceS cI cZ th4 sights1 sights2 u_sights ++ (ceT cI cZ th5 telling1 telling2 telling3 telling4 telling5 u_telling ++ (ceG cI cZ th6 seating1 seating2 seating3 seating4 seating5 seating6 u_seating ++ (ceU cI cZ th7 turns1 turns2 turns3 turns4 turns5 turns6 u_turns ++ (ceI cI cZ th8 firstImage1 firstImage2 firstImage3 firstImage4 firstImage5 firstImage6 firstImage7 firstImage8 u_firstImage ++ (ceI cI cZ th9 secondImage1 secondImage2 secondImage3 secondImage4 secondImage5 secondImage6 secondImage7 secondImage8 u_secondImage ++ (ceM cI cZ md0 md1 md2 md3 md4 md5 md6 md7 md8 md9 z81.2))))))))))) H := hP
        have hD : va_D A (ceX th0 th1 th2 th3 th4 th5 th6 th7 th8 th9 ++ (ceW cI cZ th1 wheel1 wheel2 wheel3 wheel4 u_wheel ++ (ceW cI cZ th2 trial1 trial2 trial3 trial4 z79.2 ++ (ceP cI cZ th3 pad1 u_pad ++ (ceS cI cZ th4 sights1 sights2 u_sights ++ (ceT cI cZ th5 telling1 telling2 telling3 telling4 telling5 u_telling ++ (ceG cI cZ th6 seating1 seating2 seating3 seating4 seating5 seating6 u_seating ++ (ceU cI cZ th7 turns1 turns2 turns3 turns4 turns5 turns6 u_turns ++ (ceI cI cZ th8 firstImage1 firstImage2 firstImage3 firstImage4 firstImage5 firstImage6 firstImage7 firstImage8 u_firstImage ++ (ceI cI cZ th9 secondImage1 secondImage2 secondImage3 secondImage4 secondImage5 secondImage6 secondImage7 secondImage8 u_secondImage ++ (ceM cI cZ md0 md1 md2 md3 md4 md5 md6 md7 md8 md9 z81.2))))))))))) := hD
        refine lv_icmp_eq (tgt := 764) hx hb dL_law_445 (by decide) (fun c82 => ?_) (fun c82 => ?_)
        · have hf := (if_pos c82).symm.trans hf
          refine lv_iinc (v := (v3 + (4 : Int32))) (lv' := [(3, .int (v3 + (4 : Int32))), (0, .ref b), (1, .ref th0), (2, .ref md0)]) hx hb dL_law_764 hl (k := 3) rfl rfl (by decide) rfl (fun ls hl => ?_)
          refine lv_goto (tgt := 18) hx hb dL_law_767 (by decide) ?_
          exact ih (v3 + (4 : Int32)) u_wheel z79.2 u_pad u_sights u_telling u_seating u_turns u_firstImage u_secondImage z81.2 _ _ ls (lv_sub hl [1, 2, 3, 0] rfl) hP hD hS hf
        · have hf := (if_neg c82).symm.trans hf
          refine lv_iconst (v := 0) hx hb dL_law_448 (by decide) ?_
          exact absurd (Option.some.inj hf) (by decide)
      have hf := (if_neg c77).symm.trans hf
      by_cases c83 : ((xs v3.toNatClampNeg) &&& (31 : Int32)) = 14
      · have hf := (if_pos c83).symm.trans hf
        refine lv_tableIn hx hb dL_law_32 (by rw [c83]; decide) (by rw [c83]; decide) (off := 418) (tgt := 450) (by rw [c83]; rfl) (by decide) ?_
        refine lv_aload_n hx hb dL_law_450 rfl (lv_at hl 1 rfl) ?_
        obtain ⟨z84, hz_z84, hf⟩ := o_bind hf
        refine k_calli (va_runV (As := []) (rest := []) ⟨hx, hb, hml, hown, hts⟩ (c_X10_brake l D cI cZ th0 th1 th2 th3 th4 th5 th6 th7 th8 th9 wheel1 wheel2 wheel3 wheel4 H.size u_wheel z84 hz_z84) (cwV 0 hts gL_law_X10_brake rfl rfl rfl ⟨rfl, hd_X10_brake⟩ ⟨Nat.le_of_ble_eq_true rfl, Nat.le_of_ble_eq_true rfl⟩) (k_preV hK hP hD hS hA hE [0, 1, 2, 3, 4, 5] (by decide) rfl (ci := 7) rfl rfl) rfl rfl hl.1 rfl (lv_room (Nat.le_of_ble_eq_true rfl)) dL_law_451 ⟨Nat.le_of_ble_eq_true rfl, Nat.le_of_ble_eq_true rfl⟩) hP hD hS hA [0, 1, 2, 3, 4, 5] [some 0, some 1, some 2, some 3, some 4, some 5, none, none, none, none, none, none, none, none, none, none, none, none, none, none, none, none, none, none, none, none, none, none, none, none, none, none, none, none, none, none, none, none, none, none, none, none, none, none, none, none, none, none, none, none, none, none, none, none, none, none, none, none, none, none, none, none, none, none] 6 rfl (by decide) (by decide) rfl rfl (fun H locs hP hD hS => ?_)
        have hP : va_P D vwCl (ceX th0 th1 th2 th3 th4 th5 th6 th7 th8 th9 ++ (ceW cI cZ th1 wheel1 wheel2 wheel3 wheel4 u_wheel ++ (ceW cI cZ th2 trial1 trial2 trial3 trial4 u_trial ++ (ceP cI cZ th3 pad1 u_pad ++ (ceS cI cZ th4 sights1 sights2 u_sights ++ (ceT cI cZ th5 telling1 telling2 telling3 telling4 telling5 u_telling ++ (ceG cI cZ th6 seating1 seating2 seating3 seating4 seating5 seating6 u_seating ++ (ceU cI cZ th7 turns1 turns2 turns3 turns4 turns5 turns6 u_turns ++ (ceI cI cZ th8 firstImage1 firstImage2 firstImage3 firstImage4 firstImage5 firstImage6 firstImage7 firstImage8 u_firstImage ++ (ceI cI cZ th9 secondImage1 secondImage2 secondImage3 secondImage4 secondImage5 secondImage6 secondImage7 secondImage8 u_secondImage ++ (ceM cI cZ md0 md1 md2 md3 md4 md5 md6 md7 md8 md9 u_md))))))))))) H := hP
        have hD : va_D A (ceX th0 th1 th2 th3 th4 th5 th6 th7 th8 th9 ++ (ceW cI cZ th1 wheel1 wheel2 wheel3 wheel4 u_wheel ++ (ceW cI cZ th2 trial1 trial2 trial3 trial4 u_trial ++ (ceP cI cZ th3 pad1 u_pad ++ (ceS cI cZ th4 sights1 sights2 u_sights ++ (ceT cI cZ th5 telling1 telling2 telling3 telling4 telling5 u_telling ++ (ceG cI cZ th6 seating1 seating2 seating3 seating4 seating5 seating6 u_seating ++ (ceU cI cZ th7 turns1 turns2 turns3 turns4 turns5 turns6 u_turns ++ (ceI cI cZ th8 firstImage1 firstImage2 firstImage3 firstImage4 firstImage5 firstImage6 firstImage7 firstImage8 u_firstImage ++ (ceI cI cZ th9 secondImage1 secondImage2 secondImage3 secondImage4 secondImage5 secondImage6 secondImage7 secondImage8 u_secondImage ++ (ceM cI cZ md0 md1 md2 md3 md4 md5 md6 md7 md8 md9 u_md))))))))))) := hD
        refine lv_aload_n hx hb dL_law_454 rfl (lv_at hl 2 rfl) ?_
        obtain ⟨z85, hz_z85, hf⟩ := o_bind hf
        refine k_calli (va_runV (As := []) (rest := [.int z84.1]) ⟨hx, hb, hml, hown, hts⟩ (c_X11_brake l D cI cZ md0 md1 md2 md3 md4 md5 md6 md7 md8 md9 H.size u_md z85 hz_z85) (cwV 0 hts gL_law_X11_brake rfl rfl rfl ⟨rfl, hd_X11_brake⟩ ⟨Nat.le_of_ble_eq_true rfl, Nat.le_of_ble_eq_true rfl⟩) (k_preV hK hP hD hS hA hE [54, 55, 56, 57, 58, 59, 60, 61, 62, 63] (by decide) rfl (ci := 8) rfl rfl) rfl rfl hl.1 rfl (lv_room (Nat.le_of_ble_eq_true rfl)) dL_law_455 ⟨Nat.le_of_ble_eq_true rfl, Nat.le_of_ble_eq_true rfl⟩) hP hD hS hA [54, 55, 56, 57, 58, 59, 60, 61, 62, 63] [none, none, none, none, none, none, none, none, none, none, none, none, none, none, none, none, none, none, none, none, none, none, none, none, none, none, none, none, none, none, none, none, none, none, none, none, none, none, none, none, none, none, none, none, none, none, none, none, none, none, none, none, none, none, some 0, some 1, some 2, some 3, some 4, some 5, some 6, some 7, some 8, some 9] 10 rfl (by decide) (by decide) rfl rfl (fun H locs hP hD hS => ?_)
        have hP : va_P D vwCl (ceX th0 th1 th2 th3 th4 th5 th6 th7 th8 th9 ++ (ceW cI cZ th1 wheel1 wheel2 wheel3 wheel4 u_wheel ++ (ceW cI cZ th2 trial1 trial2 trial3 trial4 u_trial ++ (ceP cI cZ th3 pad1 u_pad ++ (ceS cI cZ th4 sights1 sights2 u_sights ++ (ceT cI cZ th5 telling1 telling2 telling3 telling4 telling5 u_telling ++ (ceG cI cZ th6 seating1 seating2 seating3 seating4 seating5 seating6 u_seating ++ (ceU cI cZ th7 turns1 turns2 turns3 turns4 turns5 turns6 u_turns ++ (ceI cI cZ th8 firstImage1 firstImage2 firstImage3 firstImage4 firstImage5 firstImage6 firstImage7 firstImage8 u_firstImage ++ (ceI cI cZ th9 secondImage1 secondImage2 secondImage3 secondImage4 secondImage5 secondImage6 secondImage7 secondImage8 u_secondImage ++ (ceM cI cZ md0 md1 md2 md3 md4 md5 md6 md7 md8 md9 z85.2))))))))))) H := hP
        have hD : va_D A (ceX th0 th1 th2 th3 th4 th5 th6 th7 th8 th9 ++ (ceW cI cZ th1 wheel1 wheel2 wheel3 wheel4 u_wheel ++ (ceW cI cZ th2 trial1 trial2 trial3 trial4 u_trial ++ (ceP cI cZ th3 pad1 u_pad ++ (ceS cI cZ th4 sights1 sights2 u_sights ++ (ceT cI cZ th5 telling1 telling2 telling3 telling4 telling5 u_telling ++ (ceG cI cZ th6 seating1 seating2 seating3 seating4 seating5 seating6 u_seating ++ (ceU cI cZ th7 turns1 turns2 turns3 turns4 turns5 turns6 u_turns ++ (ceI cI cZ th8 firstImage1 firstImage2 firstImage3 firstImage4 firstImage5 firstImage6 firstImage7 firstImage8 u_firstImage ++ (ceI cI cZ th9 secondImage1 secondImage2 secondImage3 secondImage4 secondImage5 secondImage6 secondImage7 secondImage8 u_secondImage ++ (ceM cI cZ md0 md1 md2 md3 md4 md5 md6 md7 md8 md9 z85.2))))))))))) := hD
        refine lv_icmp_eq (tgt := 764) hx hb dL_law_458 (by decide) (fun c86 => ?_) (fun c86 => ?_)
        · have hf := (if_pos c86).symm.trans hf
          refine lv_iinc (v := (v3 + (4 : Int32))) (lv' := [(3, .int (v3 + (4 : Int32))), (0, .ref b), (1, .ref th0), (2, .ref md0)]) hx hb dL_law_764 hl (k := 3) rfl rfl (by decide) rfl (fun ls hl => ?_)
          refine lv_goto (tgt := 18) hx hb dL_law_767 (by decide) ?_
          exact ih (v3 + (4 : Int32)) u_wheel u_trial u_pad u_sights u_telling u_seating u_turns u_firstImage u_secondImage z85.2 _ _ ls (lv_sub hl [1, 2, 3, 0] rfl) hP hD hS hf
        · have hf := (if_neg c86).symm.trans hf
          refine lv_iconst (v := 0) hx hb dL_law_461 (by decide) ?_
          exact absurd (Option.some.inj hf) (by decide)
      have hf := (if_neg c83).symm.trans hf
      by_cases c87 : ((xs v3.toNatClampNeg) &&& (31 : Int32)) = 15
      · have hf := (if_pos c87).symm.trans hf
        refine lv_tableIn hx hb dL_law_32 (by rw [c87]; decide) (by rw [c87]; decide) (off := 431) (tgt := 463) (by rw [c87]; rfl) (by decide) ?_
        refine lv_aload_n hx hb dL_law_463 rfl (lv_at hl 1 rfl) ?_
        refine lv_aload_n hx hb dL_law_464 rfl (lv_at hl 0 rfl) ?_
        refine lv_iload_n hx hb dL_law_465 rfl (lv_at hl 3 rfl) ?_
        refine lv_iconst (v := 1) hx hb dL_law_466 (by decide) ?_
        refine lv_iadd hx hb dL_law_467 ?_
        by_cases c88 : (v3 + (1 : Int32)) < 0 ∨ L ≤ (v3 + (1 : Int32)).toNatClampNeg
        · have hf := (if_pos c88).symm.trans hf
          cases hf
        have hf := (if_neg c88).symm.trans hf
        refine va_sld hx hb hX hbl hbA hS (show vp_in (v3 + (1 : Int32)) L from c88) dL_law_468 ?_
        refine lv_aload_n hx hb dL_law_469 rfl (lv_at hl 0 rfl) ?_
        refine lv_iload_n hx hb dL_law_470 rfl (lv_at hl 3 rfl) ?_
        refine lv_iconst (v := 2) hx hb dL_law_471 (by decide) ?_
        refine lv_iadd hx hb dL_law_472 ?_
        by_cases c89 : (v3 + (2 : Int32)) < 0 ∨ L ≤ (v3 + (2 : Int32)).toNatClampNeg
        · have hf := (if_pos c89).symm.trans hf
          cases hf
        have hf := (if_neg c89).symm.trans hf
        refine va_sld hx hb hX hbl hbA hS (show vp_in (v3 + (2 : Int32)) L from c89) dL_law_473 ?_
        obtain ⟨z90, hz_z90, hf⟩ := o_bind hf
        refine k_calli (va_runV (As := [.int (xs (v3 + (1 : Int32)).toNatClampNeg), .int (xs (v3 + (2 : Int32)).toNatClampNeg)]) (rest := []) ⟨hx, hb, hml, hown, hts⟩ (c_X10_balance l D cI cZ th0 th1 th2 th3 th4 th5 th6 th7 th8 th9 wheel1 wheel2 wheel3 wheel4 seating1 seating2 seating3 seating4 seating5 seating6 H.size u_wheel u_seating (xs (v3 + (1 : Int32)).toNatClampNeg) (xs (v3 + (2 : Int32)).toNatClampNeg) z90 hz_z90) (cwV 2 hts gL_law_X10_balance rfl rfl rfl ⟨rfl, hd_X10_balance⟩ ⟨Nat.le_of_ble_eq_true rfl, Nat.le_of_ble_eq_true rfl⟩) (k_preV hK hP hD hS hA hE [0, 1, 2, 3, 4, 5, 22, 23, 24, 25, 26, 27, 28] (by decide) rfl (ci := 7) rfl rfl) rfl rfl hl.1 rfl (lv_room (Nat.le_of_ble_eq_true rfl)) dL_law_474 ⟨Nat.le_of_ble_eq_true rfl, Nat.le_of_ble_eq_true rfl⟩) hP hD hS hA [0, 1, 2, 3, 4, 5, 22, 23, 24, 25, 26, 27, 28] [some 0, some 1, some 2, some 3, some 4, some 5, none, none, none, none, none, none, none, none, none, none, none, none, none, none, none, none, some 6, some 7, some 8, some 9, some 10, some 11, some 12, none, none, none, none, none, none, none, none, none, none, none, none, none, none, none, none, none, none, none, none, none, none, none, none, none, none, none, none, none, none, none, none, none, none, none] 13 rfl (by decide) (by decide) rfl rfl (fun H locs hP hD hS => ?_)
        have hP : va_P D vwCl (ceX th0 th1 th2 th3 th4 th5 th6 th7 th8 th9 ++ (ceW cI cZ th1 wheel1 wheel2 wheel3 wheel4 u_wheel ++ (ceW cI cZ th2 trial1 trial2 trial3 trial4 u_trial ++ (ceP cI cZ th3 pad1 u_pad ++ (ceS cI cZ th4 sights1 sights2 u_sights ++ (ceT cI cZ th5 telling1 telling2 telling3 telling4 telling5 u_telling ++ (ceG cI cZ th6 seating1 seating2 seating3 seating4 seating5 seating6 z90.2 ++ (ceU cI cZ th7 turns1 turns2 turns3 turns4 turns5 turns6 u_turns ++ (ceI cI cZ th8 firstImage1 firstImage2 firstImage3 firstImage4 firstImage5 firstImage6 firstImage7 firstImage8 u_firstImage ++ (ceI cI cZ th9 secondImage1 secondImage2 secondImage3 secondImage4 secondImage5 secondImage6 secondImage7 secondImage8 u_secondImage ++ (ceM cI cZ md0 md1 md2 md3 md4 md5 md6 md7 md8 md9 u_md))))))))))) H := hP
        have hD : va_D A (ceX th0 th1 th2 th3 th4 th5 th6 th7 th8 th9 ++ (ceW cI cZ th1 wheel1 wheel2 wheel3 wheel4 u_wheel ++ (ceW cI cZ th2 trial1 trial2 trial3 trial4 u_trial ++ (ceP cI cZ th3 pad1 u_pad ++ (ceS cI cZ th4 sights1 sights2 u_sights ++ (ceT cI cZ th5 telling1 telling2 telling3 telling4 telling5 u_telling ++ (ceG cI cZ th6 seating1 seating2 seating3 seating4 seating5 seating6 z90.2 ++ (ceU cI cZ th7 turns1 turns2 turns3 turns4 turns5 turns6 u_turns ++ (ceI cI cZ th8 firstImage1 firstImage2 firstImage3 firstImage4 firstImage5 firstImage6 firstImage7 firstImage8 u_firstImage ++ (ceI cI cZ th9 secondImage1 secondImage2 secondImage3 secondImage4 secondImage5 secondImage6 secondImage7 secondImage8 u_secondImage ++ (ceM cI cZ md0 md1 md2 md3 md4 md5 md6 md7 md8 md9 u_md))))))))))) := hD
        refine lv_aload_n hx hb dL_law_477 rfl (lv_at hl 2 rfl) ?_
        refine lv_aload_n hx hb dL_law_478 rfl (lv_at hl 0 rfl) ?_
        refine lv_iload_n hx hb dL_law_479 rfl (lv_at hl 3 rfl) ?_
        refine lv_iconst (v := 1) hx hb dL_law_480 (by decide) ?_
        refine lv_iadd hx hb dL_law_481 ?_
        by_cases c91 : (v3 + (1 : Int32)) < 0 ∨ L ≤ (v3 + (1 : Int32)).toNatClampNeg
        · have hf := (if_pos c91).symm.trans hf
          cases hf
        have hf := (if_neg c91).symm.trans hf
        refine va_sld hx hb hX hbl hbA hS (show vp_in (v3 + (1 : Int32)) L from c91) dL_law_482 ?_
        refine lv_aload_n hx hb dL_law_483 rfl (lv_at hl 0 rfl) ?_
        refine lv_iload_n hx hb dL_law_484 rfl (lv_at hl 3 rfl) ?_
        refine lv_iconst (v := 2) hx hb dL_law_485 (by decide) ?_
        refine lv_iadd hx hb dL_law_486 ?_
        by_cases c92 : (v3 + (2 : Int32)) < 0 ∨ L ≤ (v3 + (2 : Int32)).toNatClampNeg
        · have hf := (if_pos c92).symm.trans hf
          cases hf
        have hf := (if_neg c92).symm.trans hf
        refine va_sld hx hb hX hbl hbA hS (show vp_in (v3 + (2 : Int32)) L from c92) dL_law_487 ?_
        obtain ⟨z93, hz_z93, hf⟩ := o_bind hf
        refine k_calli (va_runV (As := [.int (xs (v3 + (1 : Int32)).toNatClampNeg), .int (xs (v3 + (2 : Int32)).toNatClampNeg)]) (rest := [.int z90.1]) ⟨hx, hb, hml, hown, hts⟩ (c_X11_balance l D cI cZ md0 md1 md2 md3 md4 md5 md6 md7 md8 md9 H.size u_md (xs (v3 + (1 : Int32)).toNatClampNeg) (xs (v3 + (2 : Int32)).toNatClampNeg) z93 hz_z93) (cwV 2 hts gL_law_X11_balance rfl rfl rfl ⟨rfl, hd_X11_balance⟩ ⟨Nat.le_of_ble_eq_true rfl, Nat.le_of_ble_eq_true rfl⟩) (k_preV hK hP hD hS hA hE [54, 55, 56, 57, 58, 59, 60, 61, 62, 63] (by decide) rfl (ci := 8) rfl rfl) rfl rfl hl.1 rfl (lv_room (Nat.le_of_ble_eq_true rfl)) dL_law_488 ⟨Nat.le_of_ble_eq_true rfl, Nat.le_of_ble_eq_true rfl⟩) hP hD hS hA [54, 55, 56, 57, 58, 59, 60, 61, 62, 63] [none, none, none, none, none, none, none, none, none, none, none, none, none, none, none, none, none, none, none, none, none, none, none, none, none, none, none, none, none, none, none, none, none, none, none, none, none, none, none, none, none, none, none, none, none, none, none, none, none, none, none, none, none, none, some 0, some 1, some 2, some 3, some 4, some 5, some 6, some 7, some 8, some 9] 10 rfl (by decide) (by decide) rfl rfl (fun H locs hP hD hS => ?_)
        have hP : va_P D vwCl (ceX th0 th1 th2 th3 th4 th5 th6 th7 th8 th9 ++ (ceW cI cZ th1 wheel1 wheel2 wheel3 wheel4 u_wheel ++ (ceW cI cZ th2 trial1 trial2 trial3 trial4 u_trial ++ (ceP cI cZ th3 pad1 u_pad ++ (ceS cI cZ th4 sights1 sights2 u_sights ++ (ceT cI cZ th5 telling1 telling2 telling3 telling4 telling5 u_telling ++ (ceG cI cZ th6 seating1 seating2 seating3 seating4 seating5 seating6 z90.2 ++ (ceU cI cZ th7 turns1 turns2 turns3 turns4 turns5 turns6 u_turns ++ (ceI cI cZ th8 firstImage1 firstImage2 firstImage3 firstImage4 firstImage5 firstImage6 firstImage7 firstImage8 u_firstImage ++ (ceI cI cZ th9 secondImage1 secondImage2 secondImage3 secondImage4 secondImage5 secondImage6 secondImage7 secondImage8 u_secondImage ++ (ceM cI cZ md0 md1 md2 md3 md4 md5 md6 md7 md8 md9 z93.2))))))))))) H := hP
        have hD : va_D A (ceX th0 th1 th2 th3 th4 th5 th6 th7 th8 th9 ++ (ceW cI cZ th1 wheel1 wheel2 wheel3 wheel4 u_wheel ++ (ceW cI cZ th2 trial1 trial2 trial3 trial4 u_trial ++ (ceP cI cZ th3 pad1 u_pad ++ (ceS cI cZ th4 sights1 sights2 u_sights ++ (ceT cI cZ th5 telling1 telling2 telling3 telling4 telling5 u_telling ++ (ceG cI cZ th6 seating1 seating2 seating3 seating4 seating5 seating6 z90.2 ++ (ceU cI cZ th7 turns1 turns2 turns3 turns4 turns5 turns6 u_turns ++ (ceI cI cZ th8 firstImage1 firstImage2 firstImage3 firstImage4 firstImage5 firstImage6 firstImage7 firstImage8 u_firstImage ++ (ceI cI cZ th9 secondImage1 secondImage2 secondImage3 secondImage4 secondImage5 secondImage6 secondImage7 secondImage8 u_secondImage ++ (ceM cI cZ md0 md1 md2 md3 md4 md5 md6 md7 md8 md9 z93.2))))))))))) := hD
        refine lv_icmp_eq (tgt := 764) hx hb dL_law_491 (by decide) (fun c94 => ?_) (fun c94 => ?_)
        · have hf := (if_pos c94).symm.trans hf
          refine lv_iinc (v := (v3 + (4 : Int32))) (lv' := [(3, .int (v3 + (4 : Int32))), (0, .ref b), (1, .ref th0), (2, .ref md0)]) hx hb dL_law_764 hl (k := 3) rfl rfl (by decide) rfl (fun ls hl => ?_)
          refine lv_goto (tgt := 18) hx hb dL_law_767 (by decide) ?_
          exact ih (v3 + (4 : Int32)) u_wheel u_trial u_pad u_sights u_telling z90.2 u_turns u_firstImage u_secondImage z93.2 _ _ ls (lv_sub hl [1, 2, 3, 0] rfl) hP hD hS hf
        · have hf := (if_neg c94).symm.trans hf
          refine lv_iconst (v := 0) hx hb dL_law_494 (by decide) ?_
          exact absurd (Option.some.inj hf) (by decide)
      have hf := (if_neg c87).symm.trans hf
      by_cases c95 : ((xs v3.toNatClampNeg) &&& (31 : Int32)) = 16
      · have hf := (if_pos c95).symm.trans hf
        refine lv_tableIn hx hb dL_law_32 (by rw [c95]; decide) (by rw [c95]; decide) (off := 464) (tgt := 496) (by rw [c95]; rfl) (by decide) ?_
        refine lv_aload_n hx hb dL_law_496 rfl (lv_at hl 1 rfl) ?_
        refine lv_aload_n hx hb dL_law_497 rfl (lv_at hl 0 rfl) ?_
        refine lv_iload_n hx hb dL_law_498 rfl (lv_at hl 3 rfl) ?_
        refine lv_iconst (v := 1) hx hb dL_law_499 (by decide) ?_
        refine lv_iadd hx hb dL_law_500 ?_
        by_cases c96 : (v3 + (1 : Int32)) < 0 ∨ L ≤ (v3 + (1 : Int32)).toNatClampNeg
        · have hf := (if_pos c96).symm.trans hf
          cases hf
        have hf := (if_neg c96).symm.trans hf
        refine va_sld hx hb hX hbl hbA hS (show vp_in (v3 + (1 : Int32)) L from c96) dL_law_501 ?_
        refine lv_aload_n hx hb dL_law_502 rfl (lv_at hl 0 rfl) ?_
        refine lv_iload_n hx hb dL_law_503 rfl (lv_at hl 3 rfl) ?_
        refine lv_iconst (v := 2) hx hb dL_law_504 (by decide) ?_
        refine lv_iadd hx hb dL_law_505 ?_
        by_cases c97 : (v3 + (2 : Int32)) < 0 ∨ L ≤ (v3 + (2 : Int32)).toNatClampNeg
        · have hf := (if_pos c97).symm.trans hf
          cases hf
        have hf := (if_neg c97).symm.trans hf
        refine va_sld hx hb hX hbl hbA hS (show vp_in (v3 + (2 : Int32)) L from c97) dL_law_506 ?_
        refine lv_aload_n hx hb dL_law_507 rfl (lv_at hl 0 rfl) ?_
        refine lv_iload_n hx hb dL_law_508 rfl (lv_at hl 3 rfl) ?_
        refine lv_iconst (v := 3) hx hb dL_law_509 (by decide) ?_
        refine lv_iadd hx hb dL_law_510 ?_
        by_cases c98 : (v3 + (3 : Int32)) < 0 ∨ L ≤ (v3 + (3 : Int32)).toNatClampNeg
        · have hf := (if_pos c98).symm.trans hf
          cases hf
        have hf := (if_neg c98).symm.trans hf
        refine va_sld hx hb hX hbl hbA hS (show vp_in (v3 + (3 : Int32)) L from c98) dL_law_511 ?_
        obtain ⟨z99, hz_z99, hf⟩ := o_bind hf
        refine k_calli (va_runV (As := [.int (xs (v3 + (1 : Int32)).toNatClampNeg), .int (xs (v3 + (2 : Int32)).toNatClampNeg), .int (xs (v3 + (3 : Int32)).toNatClampNeg)]) (rest := []) ⟨hx, hb, hml, hown, hts⟩ (c_X10_could l D cI cZ th0 th1 th2 th3 th4 th5 th6 th7 th8 th9 wheel1 wheel2 wheel3 wheel4 trial1 trial2 trial3 trial4 pad1 telling1 telling2 telling3 telling4 telling5 H.size u_wheel u_trial u_pad u_telling (xs (v3 + (1 : Int32)).toNatClampNeg) (xs (v3 + (2 : Int32)).toNatClampNeg) (xs (v3 + (3 : Int32)).toNatClampNeg) z99 hz_z99) (cwV 3 hts gL_law_X10_could rfl rfl rfl ⟨rfl, hd_X10_could⟩ ⟨Nat.le_of_ble_eq_true rfl, Nat.le_of_ble_eq_true rfl⟩) (k_preV hK hP hD hS hA hE [0, 1, 2, 3, 4, 5, 6, 7, 8, 9, 10, 11, 12, 16, 17, 18, 19, 20, 21] (by decide) rfl (ci := 7) rfl rfl) rfl rfl hl.1 rfl (lv_room (Nat.le_of_ble_eq_true rfl)) dL_law_512 ⟨Nat.le_of_ble_eq_true rfl, Nat.le_of_ble_eq_true rfl⟩) hP hD hS hA [0, 1, 2, 3, 4, 5, 6, 7, 8, 9, 10, 11, 12, 16, 17, 18, 19, 20, 21] [some 0, some 1, some 2, some 3, some 4, some 5, some 6, some 7, some 8, some 9, some 10, some 11, some 12, none, none, none, some 13, some 14, some 15, some 16, some 17, some 18, none, none, none, none, none, none, none, none, none, none, none, none, none, none, none, none, none, none, none, none, none, none, none, none, none, none, none, none, none, none, none, none, none, none, none, none, none, none, none, none, none, none] 19 rfl (by decide) (by decide) rfl rfl (fun H locs hP hD hS => ?_)
        have hP : va_P D vwCl (ceX th0 th1 th2 th3 th4 th5 th6 th7 th8 th9 ++ (ceW cI cZ th1 wheel1 wheel2 wheel3 wheel4 u_wheel ++ (ceW cI cZ th2 trial1 trial2 trial3 trial4 z99.2.1 ++ (ceP cI cZ th3 pad1 u_pad ++ (ceS cI cZ th4 sights1 sights2 u_sights ++ (ceT cI cZ th5 telling1 telling2 telling3 telling4 telling5 z99.2.2 ++ (ceG cI cZ th6 seating1 seating2 seating3 seating4 seating5 seating6 u_seating ++ (ceU cI cZ th7 turns1 turns2 turns3 turns4 turns5 turns6 u_turns ++ (ceI cI cZ th8 firstImage1 firstImage2 firstImage3 firstImage4 firstImage5 firstImage6 firstImage7 firstImage8 u_firstImage ++ (ceI cI cZ th9 secondImage1 secondImage2 secondImage3 secondImage4 secondImage5 secondImage6 secondImage7 secondImage8 u_secondImage ++ (ceM cI cZ md0 md1 md2 md3 md4 md5 md6 md7 md8 md9 u_md))))))))))) H := hP
        have hD : va_D A (ceX th0 th1 th2 th3 th4 th5 th6 th7 th8 th9 ++ (ceW cI cZ th1 wheel1 wheel2 wheel3 wheel4 u_wheel ++ (ceW cI cZ th2 trial1 trial2 trial3 trial4 z99.2.1 ++ (ceP cI cZ th3 pad1 u_pad ++ (ceS cI cZ th4 sights1 sights2 u_sights ++ (ceT cI cZ th5 telling1 telling2 telling3 telling4 telling5 z99.2.2 ++ (ceG cI cZ th6 seating1 seating2 seating3 seating4 seating5 seating6 u_seating ++ (ceU cI cZ th7 turns1 turns2 turns3 turns4 turns5 turns6 u_turns ++ (ceI cI cZ th8 firstImage1 firstImage2 firstImage3 firstImage4 firstImage5 firstImage6 firstImage7 firstImage8 u_firstImage ++ (ceI cI cZ th9 secondImage1 secondImage2 secondImage3 secondImage4 secondImage5 secondImage6 secondImage7 secondImage8 u_secondImage ++ (ceM cI cZ md0 md1 md2 md3 md4 md5 md6 md7 md8 md9 u_md))))))))))) := hD
        refine lv_aload_n hx hb dL_law_515 rfl (lv_at hl 2 rfl) ?_
        refine lv_aload_n hx hb dL_law_516 rfl (lv_at hl 0 rfl) ?_
        refine lv_iload_n hx hb dL_law_517 rfl (lv_at hl 3 rfl) ?_
        refine lv_iconst (v := 1) hx hb dL_law_518 (by decide) ?_
        refine lv_iadd hx hb dL_law_519 ?_
        by_cases c100 : (v3 + (1 : Int32)) < 0 ∨ L ≤ (v3 + (1 : Int32)).toNatClampNeg
        · have hf := (if_pos c100).symm.trans hf
          cases hf
        have hf := (if_neg c100).symm.trans hf
        refine va_sld hx hb hX hbl hbA hS (show vp_in (v3 + (1 : Int32)) L from c100) dL_law_520 ?_
        refine lv_aload_n hx hb dL_law_521 rfl (lv_at hl 0 rfl) ?_
        refine lv_iload_n hx hb dL_law_522 rfl (lv_at hl 3 rfl) ?_
        refine lv_iconst (v := 2) hx hb dL_law_523 (by decide) ?_
        refine lv_iadd hx hb dL_law_524 ?_
        by_cases c101 : (v3 + (2 : Int32)) < 0 ∨ L ≤ (v3 + (2 : Int32)).toNatClampNeg
        · have hf := (if_pos c101).symm.trans hf
          cases hf
        have hf := (if_neg c101).symm.trans hf
        refine va_sld hx hb hX hbl hbA hS (show vp_in (v3 + (2 : Int32)) L from c101) dL_law_525 ?_
        refine lv_aload_n hx hb dL_law_526 rfl (lv_at hl 0 rfl) ?_
        refine lv_iload_n hx hb dL_law_527 rfl (lv_at hl 3 rfl) ?_
        refine lv_iconst (v := 3) hx hb dL_law_528 (by decide) ?_
        refine lv_iadd hx hb dL_law_529 ?_
        by_cases c102 : (v3 + (3 : Int32)) < 0 ∨ L ≤ (v3 + (3 : Int32)).toNatClampNeg
        · have hf := (if_pos c102).symm.trans hf
          cases hf
        have hf := (if_neg c102).symm.trans hf
        refine va_sld hx hb hX hbl hbA hS (show vp_in (v3 + (3 : Int32)) L from c102) dL_law_530 ?_
        obtain ⟨z103, hz_z103, hf⟩ := o_bind hf
        refine k_calli (va_runV (As := [.int (xs (v3 + (1 : Int32)).toNatClampNeg), .int (xs (v3 + (2 : Int32)).toNatClampNeg), .int (xs (v3 + (3 : Int32)).toNatClampNeg)]) (rest := [.int z99.1]) ⟨hx, hb, hml, hown, hts⟩ (c_X11_could l D cI cZ md0 md1 md2 md3 md4 md5 md6 md7 md8 md9 H.size u_md (xs (v3 + (1 : Int32)).toNatClampNeg) (xs (v3 + (2 : Int32)).toNatClampNeg) (xs (v3 + (3 : Int32)).toNatClampNeg) z103 hz_z103) (cwV 3 hts gL_law_X11_could rfl rfl rfl ⟨rfl, hd_X11_could⟩ ⟨Nat.le_of_ble_eq_true rfl, Nat.le_of_ble_eq_true rfl⟩) (k_preV hK hP hD hS hA hE [54, 55, 56, 57, 58, 59, 60, 61, 62, 63] (by decide) rfl (ci := 8) rfl rfl) rfl rfl hl.1 rfl (lv_room (Nat.le_of_ble_eq_true rfl)) dL_law_531 ⟨Nat.le_of_ble_eq_true rfl, Nat.le_of_ble_eq_true rfl⟩) hP hD hS hA [54, 55, 56, 57, 58, 59, 60, 61, 62, 63] [none, none, none, none, none, none, none, none, none, none, none, none, none, none, none, none, none, none, none, none, none, none, none, none, none, none, none, none, none, none, none, none, none, none, none, none, none, none, none, none, none, none, none, none, none, none, none, none, none, none, none, none, none, none, some 0, some 1, some 2, some 3, some 4, some 5, some 6, some 7, some 8, some 9] 10 rfl (by decide) (by decide) rfl rfl (fun H locs hP hD hS => ?_)
        have hP : va_P D vwCl (ceX th0 th1 th2 th3 th4 th5 th6 th7 th8 th9 ++ (ceW cI cZ th1 wheel1 wheel2 wheel3 wheel4 u_wheel ++ (ceW cI cZ th2 trial1 trial2 trial3 trial4 z99.2.1 ++ (ceP cI cZ th3 pad1 u_pad ++ (ceS cI cZ th4 sights1 sights2 u_sights ++ (ceT cI cZ th5 telling1 telling2 telling3 telling4 telling5 z99.2.2 ++ (ceG cI cZ th6 seating1 seating2 seating3 seating4 seating5 seating6 u_seating ++ (ceU cI cZ th7 turns1 turns2 turns3 turns4 turns5 turns6 u_turns ++ (ceI cI cZ th8 firstImage1 firstImage2 firstImage3 firstImage4 firstImage5 firstImage6 firstImage7 firstImage8 u_firstImage ++ (ceI cI cZ th9 secondImage1 secondImage2 secondImage3 secondImage4 secondImage5 secondImage6 secondImage7 secondImage8 u_secondImage ++ (ceM cI cZ md0 md1 md2 md3 md4 md5 md6 md7 md8 md9 z103.2))))))))))) H := hP
        have hD : va_D A (ceX th0 th1 th2 th3 th4 th5 th6 th7 th8 th9 ++ (ceW cI cZ th1 wheel1 wheel2 wheel3 wheel4 u_wheel ++ (ceW cI cZ th2 trial1 trial2 trial3 trial4 z99.2.1 ++ (ceP cI cZ th3 pad1 u_pad ++ (ceS cI cZ th4 sights1 sights2 u_sights ++ (ceT cI cZ th5 telling1 telling2 telling3 telling4 telling5 z99.2.2 ++ (ceG cI cZ th6 seating1 seating2 seating3 seating4 seating5 seating6 u_seating ++ (ceU cI cZ th7 turns1 turns2 turns3 turns4 turns5 turns6 u_turns ++ (ceI cI cZ th8 firstImage1 firstImage2 firstImage3 firstImage4 firstImage5 firstImage6 firstImage7 firstImage8 u_firstImage ++ (ceI cI cZ th9 secondImage1 secondImage2 secondImage3 secondImage4 secondImage5 secondImage6 secondImage7 secondImage8 u_secondImage ++ (ceM cI cZ md0 md1 md2 md3 md4 md5 md6 md7 md8 md9 z103.2))))))))))) := hD
        refine lv_icmp_eq (tgt := 764) hx hb dL_law_534 (by decide) (fun c104 => ?_) (fun c104 => ?_)
        · have hf := (if_pos c104).symm.trans hf
          refine lv_iinc (v := (v3 + (4 : Int32))) (lv' := [(3, .int (v3 + (4 : Int32))), (0, .ref b), (1, .ref th0), (2, .ref md0)]) hx hb dL_law_764 hl (k := 3) rfl rfl (by decide) rfl (fun ls hl => ?_)
          refine lv_goto (tgt := 18) hx hb dL_law_767 (by decide) ?_
          exact ih (v3 + (4 : Int32)) u_wheel z99.2.1 u_pad u_sights z99.2.2 u_seating u_turns u_firstImage u_secondImage z103.2 _ _ ls (lv_sub hl [1, 2, 3, 0] rfl) hP hD hS hf
        · have hf := (if_neg c104).symm.trans hf
          refine lv_iconst (v := 0) hx hb dL_law_537 (by decide) ?_
          exact absurd (Option.some.inj hf) (by decide)
      have hf := (if_neg c95).symm.trans hf
      by_cases c105 : ((xs v3.toNatClampNeg) &&& (31 : Int32)) = 17
      · have hf := (if_pos c105).symm.trans hf
        refine lv_tableIn hx hb dL_law_32 (by rw [c105]; decide) (by rw [c105]; decide) (off := 507) (tgt := 539) (by rw [c105]; rfl) (by decide) ?_
        refine lv_aload_n hx hb dL_law_539 rfl (lv_at hl 1 rfl) ?_
        refine lv_aload_n hx hb dL_law_540 rfl (lv_at hl 0 rfl) ?_
        refine lv_iload_n hx hb dL_law_541 rfl (lv_at hl 3 rfl) ?_
        refine lv_iconst (v := 1) hx hb dL_law_542 (by decide) ?_
        refine lv_iadd hx hb dL_law_543 ?_
        by_cases c106 : (v3 + (1 : Int32)) < 0 ∨ L ≤ (v3 + (1 : Int32)).toNatClampNeg
        · have hf := (if_pos c106).symm.trans hf
          cases hf
        have hf := (if_neg c106).symm.trans hf
        refine va_sld hx hb hX hbl hbA hS (show vp_in (v3 + (1 : Int32)) L from c106) dL_law_544 ?_
        refine lv_aload_n hx hb dL_law_545 rfl (lv_at hl 0 rfl) ?_
        refine lv_iload_n hx hb dL_law_546 rfl (lv_at hl 3 rfl) ?_
        refine lv_iconst (v := 2) hx hb dL_law_547 (by decide) ?_
        refine lv_iadd hx hb dL_law_548 ?_
        by_cases c107 : (v3 + (2 : Int32)) < 0 ∨ L ≤ (v3 + (2 : Int32)).toNatClampNeg
        · have hf := (if_pos c107).symm.trans hf
          cases hf
        have hf := (if_neg c107).symm.trans hf
        refine va_sld hx hb hX hbl hbA hS (show vp_in (v3 + (2 : Int32)) L from c107) dL_law_549 ?_
        obtain ⟨z108, hz_z108, hf⟩ := o_bind hf
        refine k_calli (va_runV (As := [.int (xs (v3 + (1 : Int32)).toNatClampNeg), .int (xs (v3 + (2 : Int32)).toNatClampNeg)]) (rest := []) ⟨hx, hb, hml, hown, hts⟩ (c_X10_seen l D cI cZ th0 th1 th2 th3 th4 th5 th6 th7 th8 th9 sights1 sights2 H.size u_sights (xs (v3 + (1 : Int32)).toNatClampNeg) (xs (v3 + (2 : Int32)).toNatClampNeg) z108 hz_z108) (cwV 2 hts gL_law_X10_seen rfl rfl rfl ⟨rfl, hd_X10_seen⟩ ⟨Nat.le_of_ble_eq_true rfl, Nat.le_of_ble_eq_true rfl⟩) (k_preV hK hP hD hS hA hE [0, 13, 14, 15] (by decide) rfl (ci := 7) rfl rfl) rfl rfl hl.1 rfl (lv_room (Nat.le_of_ble_eq_true rfl)) dL_law_550 ⟨Nat.le_of_ble_eq_true rfl, Nat.le_of_ble_eq_true rfl⟩) hP hD hS hA [0, 13, 14, 15] [some 0, none, none, none, none, none, none, none, none, none, none, none, none, some 1, some 2, some 3, none, none, none, none, none, none, none, none, none, none, none, none, none, none, none, none, none, none, none, none, none, none, none, none, none, none, none, none, none, none, none, none, none, none, none, none, none, none, none, none, none, none, none, none, none, none, none, none] 4 rfl (by decide) (by decide) rfl rfl (fun H locs hP hD hS => ?_)
        have hP : va_P D vwCl (ceX th0 th1 th2 th3 th4 th5 th6 th7 th8 th9 ++ (ceW cI cZ th1 wheel1 wheel2 wheel3 wheel4 u_wheel ++ (ceW cI cZ th2 trial1 trial2 trial3 trial4 u_trial ++ (ceP cI cZ th3 pad1 u_pad ++ (ceS cI cZ th4 sights1 sights2 z108.2 ++ (ceT cI cZ th5 telling1 telling2 telling3 telling4 telling5 u_telling ++ (ceG cI cZ th6 seating1 seating2 seating3 seating4 seating5 seating6 u_seating ++ (ceU cI cZ th7 turns1 turns2 turns3 turns4 turns5 turns6 u_turns ++ (ceI cI cZ th8 firstImage1 firstImage2 firstImage3 firstImage4 firstImage5 firstImage6 firstImage7 firstImage8 u_firstImage ++ (ceI cI cZ th9 secondImage1 secondImage2 secondImage3 secondImage4 secondImage5 secondImage6 secondImage7 secondImage8 u_secondImage ++ (ceM cI cZ md0 md1 md2 md3 md4 md5 md6 md7 md8 md9 u_md))))))))))) H := hP
        have hD : va_D A (ceX th0 th1 th2 th3 th4 th5 th6 th7 th8 th9 ++ (ceW cI cZ th1 wheel1 wheel2 wheel3 wheel4 u_wheel ++ (ceW cI cZ th2 trial1 trial2 trial3 trial4 u_trial ++ (ceP cI cZ th3 pad1 u_pad ++ (ceS cI cZ th4 sights1 sights2 z108.2 ++ (ceT cI cZ th5 telling1 telling2 telling3 telling4 telling5 u_telling ++ (ceG cI cZ th6 seating1 seating2 seating3 seating4 seating5 seating6 u_seating ++ (ceU cI cZ th7 turns1 turns2 turns3 turns4 turns5 turns6 u_turns ++ (ceI cI cZ th8 firstImage1 firstImage2 firstImage3 firstImage4 firstImage5 firstImage6 firstImage7 firstImage8 u_firstImage ++ (ceI cI cZ th9 secondImage1 secondImage2 secondImage3 secondImage4 secondImage5 secondImage6 secondImage7 secondImage8 u_secondImage ++ (ceM cI cZ md0 md1 md2 md3 md4 md5 md6 md7 md8 md9 u_md))))))))))) := hD
        refine lv_aload_n hx hb dL_law_553 rfl (lv_at hl 2 rfl) ?_
        refine lv_aload_n hx hb dL_law_554 rfl (lv_at hl 0 rfl) ?_
        refine lv_iload_n hx hb dL_law_555 rfl (lv_at hl 3 rfl) ?_
        refine lv_iconst (v := 1) hx hb dL_law_556 (by decide) ?_
        refine lv_iadd hx hb dL_law_557 ?_
        by_cases c109 : (v3 + (1 : Int32)) < 0 ∨ L ≤ (v3 + (1 : Int32)).toNatClampNeg
        · have hf := (if_pos c109).symm.trans hf
          cases hf
        have hf := (if_neg c109).symm.trans hf
        refine va_sld hx hb hX hbl hbA hS (show vp_in (v3 + (1 : Int32)) L from c109) dL_law_558 ?_
        refine lv_aload_n hx hb dL_law_559 rfl (lv_at hl 0 rfl) ?_
        refine lv_iload_n hx hb dL_law_560 rfl (lv_at hl 3 rfl) ?_
        refine lv_iconst (v := 2) hx hb dL_law_561 (by decide) ?_
        refine lv_iadd hx hb dL_law_562 ?_
        by_cases c110 : (v3 + (2 : Int32)) < 0 ∨ L ≤ (v3 + (2 : Int32)).toNatClampNeg
        · have hf := (if_pos c110).symm.trans hf
          cases hf
        have hf := (if_neg c110).symm.trans hf
        refine va_sld hx hb hX hbl hbA hS (show vp_in (v3 + (2 : Int32)) L from c110) dL_law_563 ?_
        obtain ⟨z111, hz_z111, hf⟩ := o_bind hf
        refine k_calli (va_runV (As := [.int (xs (v3 + (1 : Int32)).toNatClampNeg), .int (xs (v3 + (2 : Int32)).toNatClampNeg)]) (rest := [.int z108.1]) ⟨hx, hb, hml, hown, hts⟩ (c_X11_seen l D cI cZ md0 md1 md2 md3 md4 md5 md6 md7 md8 md9 H.size u_md (xs (v3 + (1 : Int32)).toNatClampNeg) (xs (v3 + (2 : Int32)).toNatClampNeg) z111 hz_z111) (cwV 2 hts gL_law_X11_seen rfl rfl rfl ⟨rfl, hd_X11_seen⟩ ⟨Nat.le_of_ble_eq_true rfl, Nat.le_of_ble_eq_true rfl⟩) (k_preV hK hP hD hS hA hE [54, 55, 56, 57, 58, 59, 60, 61, 62, 63] (by decide) rfl (ci := 8) rfl rfl) rfl rfl hl.1 rfl (lv_room (Nat.le_of_ble_eq_true rfl)) dL_law_564 ⟨Nat.le_of_ble_eq_true rfl, Nat.le_of_ble_eq_true rfl⟩) hP hD hS hA [54, 55, 56, 57, 58, 59, 60, 61, 62, 63] [none, none, none, none, none, none, none, none, none, none, none, none, none, none, none, none, none, none, none, none, none, none, none, none, none, none, none, none, none, none, none, none, none, none, none, none, none, none, none, none, none, none, none, none, none, none, none, none, none, none, none, none, none, none, some 0, some 1, some 2, some 3, some 4, some 5, some 6, some 7, some 8, some 9] 10 rfl (by decide) (by decide) rfl rfl (fun H locs hP hD hS => ?_)
        have hP : va_P D vwCl (ceX th0 th1 th2 th3 th4 th5 th6 th7 th8 th9 ++ (ceW cI cZ th1 wheel1 wheel2 wheel3 wheel4 u_wheel ++ (ceW cI cZ th2 trial1 trial2 trial3 trial4 u_trial ++ (ceP cI cZ th3 pad1 u_pad ++ (ceS cI cZ th4 sights1 sights2 z108.2 ++ (ceT cI cZ th5 telling1 telling2 telling3 telling4 telling5 u_telling ++ (ceG cI cZ th6 seating1 seating2 seating3 seating4 seating5 seating6 u_seating ++ (ceU cI cZ th7 turns1 turns2 turns3 turns4 turns5 turns6 u_turns ++ (ceI cI cZ th8 firstImage1 firstImage2 firstImage3 firstImage4 firstImage5 firstImage6 firstImage7 firstImage8 u_firstImage ++ (ceI cI cZ th9 secondImage1 secondImage2 secondImage3 secondImage4 secondImage5 secondImage6 secondImage7 secondImage8 u_secondImage ++ (ceM cI cZ md0 md1 md2 md3 md4 md5 md6 md7 md8 md9 z111.2))))))))))) H := hP
        have hD : va_D A (ceX th0 th1 th2 th3 th4 th5 th6 th7 th8 th9 ++ (ceW cI cZ th1 wheel1 wheel2 wheel3 wheel4 u_wheel ++ (ceW cI cZ th2 trial1 trial2 trial3 trial4 u_trial ++ (ceP cI cZ th3 pad1 u_pad ++ (ceS cI cZ th4 sights1 sights2 z108.2 ++ (ceT cI cZ th5 telling1 telling2 telling3 telling4 telling5 u_telling ++ (ceG cI cZ th6 seating1 seating2 seating3 seating4 seating5 seating6 u_seating ++ (ceU cI cZ th7 turns1 turns2 turns3 turns4 turns5 turns6 u_turns ++ (ceI cI cZ th8 firstImage1 firstImage2 firstImage3 firstImage4 firstImage5 firstImage6 firstImage7 firstImage8 u_firstImage ++ (ceI cI cZ th9 secondImage1 secondImage2 secondImage3 secondImage4 secondImage5 secondImage6 secondImage7 secondImage8 u_secondImage ++ (ceM cI cZ md0 md1 md2 md3 md4 md5 md6 md7 md8 md9 z111.2))))))))))) := hD
        refine lv_icmp_eq (tgt := 764) hx hb dL_law_567 (by decide) (fun c112 => ?_) (fun c112 => ?_)
        · have hf := (if_pos c112).symm.trans hf
          refine lv_iinc (v := (v3 + (4 : Int32))) (lv' := [(3, .int (v3 + (4 : Int32))), (0, .ref b), (1, .ref th0), (2, .ref md0)]) hx hb dL_law_764 hl (k := 3) rfl rfl (by decide) rfl (fun ls hl => ?_)
          refine lv_goto (tgt := 18) hx hb dL_law_767 (by decide) ?_
          exact ih (v3 + (4 : Int32)) u_wheel u_trial u_pad z108.2 u_telling u_seating u_turns u_firstImage u_secondImage z111.2 _ _ ls (lv_sub hl [1, 2, 3, 0] rfl) hP hD hS hf
        · have hf := (if_neg c112).symm.trans hf
          refine lv_iconst (v := 0) hx hb dL_law_570 (by decide) ?_
          exact absurd (Option.some.inj hf) (by decide)
      have hf := (if_neg c105).symm.trans hf
      by_cases c113 : ((xs v3.toNatClampNeg) &&& (31 : Int32)) = 18
      · have hf := (if_pos c113).symm.trans hf
        refine lv_tableIn hx hb dL_law_32 (by rw [c113]; decide) (by rw [c113]; decide) (off := 540) (tgt := 572) (by rw [c113]; rfl) (by decide) ?_
        refine lv_aload_n hx hb dL_law_572 rfl (lv_at hl 1 rfl) ?_
        obtain ⟨z114, hz_z114, hf⟩ := o_bind hf
        refine k_calli (va_runV (As := []) (rest := []) ⟨hx, hb, hml, hown, hts⟩ (c_X10_forget l D cI cZ th0 th1 th2 th3 th4 th5 th6 th7 th8 th9 sights1 sights2 H.size u_sights z114 hz_z114) (cwV 0 hts gL_law_X10_forget rfl rfl rfl ⟨rfl, hd_X10_forget⟩ ⟨Nat.le_of_ble_eq_true rfl, Nat.le_of_ble_eq_true rfl⟩) (k_preV hK hP hD hS hA hE [0, 13, 14, 15] (by decide) rfl (ci := 7) rfl rfl) rfl rfl hl.1 rfl (lv_room (Nat.le_of_ble_eq_true rfl)) dL_law_573 ⟨Nat.le_of_ble_eq_true rfl, Nat.le_of_ble_eq_true rfl⟩) hP hD hS hA [0, 13, 14, 15] [some 0, none, none, none, none, none, none, none, none, none, none, none, none, some 1, some 2, some 3, none, none, none, none, none, none, none, none, none, none, none, none, none, none, none, none, none, none, none, none, none, none, none, none, none, none, none, none, none, none, none, none, none, none, none, none, none, none, none, none, none, none, none, none, none, none, none, none] 4 rfl (by decide) (by decide) rfl rfl (fun H locs hP hD hS => ?_)
        have hP : va_P D vwCl (ceX th0 th1 th2 th3 th4 th5 th6 th7 th8 th9 ++ (ceW cI cZ th1 wheel1 wheel2 wheel3 wheel4 u_wheel ++ (ceW cI cZ th2 trial1 trial2 trial3 trial4 u_trial ++ (ceP cI cZ th3 pad1 u_pad ++ (ceS cI cZ th4 sights1 sights2 z114.2 ++ (ceT cI cZ th5 telling1 telling2 telling3 telling4 telling5 u_telling ++ (ceG cI cZ th6 seating1 seating2 seating3 seating4 seating5 seating6 u_seating ++ (ceU cI cZ th7 turns1 turns2 turns3 turns4 turns5 turns6 u_turns ++ (ceI cI cZ th8 firstImage1 firstImage2 firstImage3 firstImage4 firstImage5 firstImage6 firstImage7 firstImage8 u_firstImage ++ (ceI cI cZ th9 secondImage1 secondImage2 secondImage3 secondImage4 secondImage5 secondImage6 secondImage7 secondImage8 u_secondImage ++ (ceM cI cZ md0 md1 md2 md3 md4 md5 md6 md7 md8 md9 u_md))))))))))) H := hP
        have hD : va_D A (ceX th0 th1 th2 th3 th4 th5 th6 th7 th8 th9 ++ (ceW cI cZ th1 wheel1 wheel2 wheel3 wheel4 u_wheel ++ (ceW cI cZ th2 trial1 trial2 trial3 trial4 u_trial ++ (ceP cI cZ th3 pad1 u_pad ++ (ceS cI cZ th4 sights1 sights2 z114.2 ++ (ceT cI cZ th5 telling1 telling2 telling3 telling4 telling5 u_telling ++ (ceG cI cZ th6 seating1 seating2 seating3 seating4 seating5 seating6 u_seating ++ (ceU cI cZ th7 turns1 turns2 turns3 turns4 turns5 turns6 u_turns ++ (ceI cI cZ th8 firstImage1 firstImage2 firstImage3 firstImage4 firstImage5 firstImage6 firstImage7 firstImage8 u_firstImage ++ (ceI cI cZ th9 secondImage1 secondImage2 secondImage3 secondImage4 secondImage5 secondImage6 secondImage7 secondImage8 u_secondImage ++ (ceM cI cZ md0 md1 md2 md3 md4 md5 md6 md7 md8 md9 u_md))))))))))) := hD
        refine lv_aload_n hx hb dL_law_576 rfl (lv_at hl 2 rfl) ?_
        obtain ⟨z115, hz_z115, hf⟩ := o_bind hf
        refine k_calli (va_runV (As := []) (rest := [.int z114.1]) ⟨hx, hb, hml, hown, hts⟩ (c_X11_forget l D cI cZ md0 md1 md2 md3 md4 md5 md6 md7 md8 md9 H.size u_md z115 hz_z115) (cwV 0 hts gL_law_X11_forget rfl rfl rfl ⟨rfl, hd_X11_forget⟩ ⟨Nat.le_of_ble_eq_true rfl, Nat.le_of_ble_eq_true rfl⟩) (k_preV hK hP hD hS hA hE [54, 55, 56, 57, 58, 59, 60, 61, 62, 63] (by decide) rfl (ci := 8) rfl rfl) rfl rfl hl.1 rfl (lv_room (Nat.le_of_ble_eq_true rfl)) dL_law_577 ⟨Nat.le_of_ble_eq_true rfl, Nat.le_of_ble_eq_true rfl⟩) hP hD hS hA [54, 55, 56, 57, 58, 59, 60, 61, 62, 63] [none, none, none, none, none, none, none, none, none, none, none, none, none, none, none, none, none, none, none, none, none, none, none, none, none, none, none, none, none, none, none, none, none, none, none, none, none, none, none, none, none, none, none, none, none, none, none, none, none, none, none, none, none, none, some 0, some 1, some 2, some 3, some 4, some 5, some 6, some 7, some 8, some 9] 10 rfl (by decide) (by decide) rfl rfl (fun H locs hP hD hS => ?_)
        have hP : va_P D vwCl (ceX th0 th1 th2 th3 th4 th5 th6 th7 th8 th9 ++ (ceW cI cZ th1 wheel1 wheel2 wheel3 wheel4 u_wheel ++ (ceW cI cZ th2 trial1 trial2 trial3 trial4 u_trial ++ (ceP cI cZ th3 pad1 u_pad ++ (ceS cI cZ th4 sights1 sights2 z114.2 ++ (ceT cI cZ th5 telling1 telling2 telling3 telling4 telling5 u_telling ++ (ceG cI cZ th6 seating1 seating2 seating3 seating4 seating5 seating6 u_seating ++ (ceU cI cZ th7 turns1 turns2 turns3 turns4 turns5 turns6 u_turns ++ (ceI cI cZ th8 firstImage1 firstImage2 firstImage3 firstImage4 firstImage5 firstImage6 firstImage7 firstImage8 u_firstImage ++ (ceI cI cZ th9 secondImage1 secondImage2 secondImage3 secondImage4 secondImage5 secondImage6 secondImage7 secondImage8 u_secondImage ++ (ceM cI cZ md0 md1 md2 md3 md4 md5 md6 md7 md8 md9 z115.2))))))))))) H := hP
        have hD : va_D A (ceX th0 th1 th2 th3 th4 th5 th6 th7 th8 th9 ++ (ceW cI cZ th1 wheel1 wheel2 wheel3 wheel4 u_wheel ++ (ceW cI cZ th2 trial1 trial2 trial3 trial4 u_trial ++ (ceP cI cZ th3 pad1 u_pad ++ (ceS cI cZ th4 sights1 sights2 z114.2 ++ (ceT cI cZ th5 telling1 telling2 telling3 telling4 telling5 u_telling ++ (ceG cI cZ th6 seating1 seating2 seating3 seating4 seating5 seating6 u_seating ++ (ceU cI cZ th7 turns1 turns2 turns3 turns4 turns5 turns6 u_turns ++ (ceI cI cZ th8 firstImage1 firstImage2 firstImage3 firstImage4 firstImage5 firstImage6 firstImage7 firstImage8 u_firstImage ++ (ceI cI cZ th9 secondImage1 secondImage2 secondImage3 secondImage4 secondImage5 secondImage6 secondImage7 secondImage8 u_secondImage ++ (ceM cI cZ md0 md1 md2 md3 md4 md5 md6 md7 md8 md9 z115.2))))))))))) := hD
        refine lv_icmp_eq (tgt := 764) hx hb dL_law_580 (by decide) (fun c116 => ?_) (fun c116 => ?_)
        · have hf := (if_pos c116).symm.trans hf
          refine lv_iinc (v := (v3 + (4 : Int32))) (lv' := [(3, .int (v3 + (4 : Int32))), (0, .ref b), (1, .ref th0), (2, .ref md0)]) hx hb dL_law_764 hl (k := 3) rfl rfl (by decide) rfl (fun ls hl => ?_)
          refine lv_goto (tgt := 18) hx hb dL_law_767 (by decide) ?_
          exact ih (v3 + (4 : Int32)) u_wheel u_trial u_pad z114.2 u_telling u_seating u_turns u_firstImage u_secondImage z115.2 _ _ ls (lv_sub hl [1, 2, 3, 0] rfl) hP hD hS hf
        · have hf := (if_neg c116).symm.trans hf
          refine lv_iconst (v := 0) hx hb dL_law_583 (by decide) ?_
          exact absurd (Option.some.inj hf) (by decide)
      have hf := (if_neg c113).symm.trans hf
      by_cases c117 : ((xs v3.toNatClampNeg) &&& (31 : Int32)) = 19
      · have hf := (if_pos c117).symm.trans hf
        refine lv_tableIn hx hb dL_law_32 (by rw [c117]; decide) (by rw [c117]; decide) (off := 553) (tgt := 585) (by rw [c117]; rfl) (by decide) ?_
        refine lv_aload_n hx hb dL_law_585 rfl (lv_at hl 1 rfl) ?_
        refine lv_aload_n hx hb dL_law_586 rfl (lv_at hl 0 rfl) ?_
        refine lv_iload_n hx hb dL_law_587 rfl (lv_at hl 3 rfl) ?_
        refine lv_iconst (v := 1) hx hb dL_law_588 (by decide) ?_
        refine lv_iadd hx hb dL_law_589 ?_
        by_cases c118 : (v3 + (1 : Int32)) < 0 ∨ L ≤ (v3 + (1 : Int32)).toNatClampNeg
        · have hf := (if_pos c118).symm.trans hf
          cases hf
        have hf := (if_neg c118).symm.trans hf
        refine va_sld hx hb hX hbl hbA hS (show vp_in (v3 + (1 : Int32)) L from c118) dL_law_590 ?_
        obtain ⟨z119, hz_z119, hf⟩ := o_bind hf
        refine k_calli (va_runV (As := [.int (xs (v3 + (1 : Int32)).toNatClampNeg)]) (rest := []) ⟨hx, hb, hml, hown, hts⟩ (c_X10_filled l D cI cZ th0 th1 th2 th3 th4 th5 th6 th7 th8 th9 wheel1 wheel2 wheel3 wheel4 pad1 sights1 sights2 telling1 telling2 telling3 telling4 telling5 H.size u_wheel u_pad u_sights u_telling (xs (v3 + (1 : Int32)).toNatClampNeg) z119 hz_z119) (cwV 1 hts gL_law_X10_filled rfl rfl rfl ⟨rfl, hd_X10_filled⟩ ⟨Nat.le_of_ble_eq_true rfl, Nat.le_of_ble_eq_true rfl⟩) (k_preV hK hP hD hS hA hE [0, 1, 2, 3, 4, 5, 11, 12, 13, 14, 15, 16, 17, 18, 19, 20, 21] (by decide) rfl (ci := 7) rfl rfl) rfl rfl hl.1 rfl (lv_room (Nat.le_of_ble_eq_true rfl)) dL_law_591 ⟨Nat.le_of_ble_eq_true rfl, Nat.le_of_ble_eq_true rfl⟩) hP hD hS hA [0, 1, 2, 3, 4, 5, 11, 12, 13, 14, 15, 16, 17, 18, 19, 20, 21] [some 0, some 1, some 2, some 3, some 4, some 5, none, none, none, none, none, some 6, some 7, some 8, some 9, some 10, some 11, some 12, some 13, some 14, some 15, some 16, none, none, none, none, none, none, none, none, none, none, none, none, none, none, none, none, none, none, none, none, none, none, none, none, none, none, none, none, none, none, none, none, none, none, none, none, none, none, none, none, none, none] 17 rfl (by decide) (by decide) rfl rfl (fun H locs hP hD hS => ?_)
        have hP : va_P D vwCl (ceX th0 th1 th2 th3 th4 th5 th6 th7 th8 th9 ++ (ceW cI cZ th1 wheel1 wheel2 wheel3 wheel4 u_wheel ++ (ceW cI cZ th2 trial1 trial2 trial3 trial4 u_trial ++ (ceP cI cZ th3 pad1 u_pad ++ (ceS cI cZ th4 sights1 sights2 u_sights ++ (ceT cI cZ th5 telling1 telling2 telling3 telling4 telling5 z119.2 ++ (ceG cI cZ th6 seating1 seating2 seating3 seating4 seating5 seating6 u_seating ++ (ceU cI cZ th7 turns1 turns2 turns3 turns4 turns5 turns6 u_turns ++ (ceI cI cZ th8 firstImage1 firstImage2 firstImage3 firstImage4 firstImage5 firstImage6 firstImage7 firstImage8 u_firstImage ++ (ceI cI cZ th9 secondImage1 secondImage2 secondImage3 secondImage4 secondImage5 secondImage6 secondImage7 secondImage8 u_secondImage ++ (ceM cI cZ md0 md1 md2 md3 md4 md5 md6 md7 md8 md9 u_md))))))))))) H := hP
        have hD : va_D A (ceX th0 th1 th2 th3 th4 th5 th6 th7 th8 th9 ++ (ceW cI cZ th1 wheel1 wheel2 wheel3 wheel4 u_wheel ++ (ceW cI cZ th2 trial1 trial2 trial3 trial4 u_trial ++ (ceP cI cZ th3 pad1 u_pad ++ (ceS cI cZ th4 sights1 sights2 u_sights ++ (ceT cI cZ th5 telling1 telling2 telling3 telling4 telling5 z119.2 ++ (ceG cI cZ th6 seating1 seating2 seating3 seating4 seating5 seating6 u_seating ++ (ceU cI cZ th7 turns1 turns2 turns3 turns4 turns5 turns6 u_turns ++ (ceI cI cZ th8 firstImage1 firstImage2 firstImage3 firstImage4 firstImage5 firstImage6 firstImage7 firstImage8 u_firstImage ++ (ceI cI cZ th9 secondImage1 secondImage2 secondImage3 secondImage4 secondImage5 secondImage6 secondImage7 secondImage8 u_secondImage ++ (ceM cI cZ md0 md1 md2 md3 md4 md5 md6 md7 md8 md9 u_md))))))))))) := hD
        refine lv_aload_n hx hb dL_law_594 rfl (lv_at hl 2 rfl) ?_
        refine lv_aload_n hx hb dL_law_595 rfl (lv_at hl 0 rfl) ?_
        refine lv_iload_n hx hb dL_law_596 rfl (lv_at hl 3 rfl) ?_
        refine lv_iconst (v := 1) hx hb dL_law_597 (by decide) ?_
        refine lv_iadd hx hb dL_law_598 ?_
        by_cases c120 : (v3 + (1 : Int32)) < 0 ∨ L ≤ (v3 + (1 : Int32)).toNatClampNeg
        · have hf := (if_pos c120).symm.trans hf
          cases hf
        have hf := (if_neg c120).symm.trans hf
        refine va_sld hx hb hX hbl hbA hS (show vp_in (v3 + (1 : Int32)) L from c120) dL_law_599 ?_
        obtain ⟨z121, hz_z121, hf⟩ := o_bind hf
        refine k_calli (va_runV (As := [.int (xs (v3 + (1 : Int32)).toNatClampNeg)]) (rest := [.int z119.1]) ⟨hx, hb, hml, hown, hts⟩ (c_X11_filled l D cI cZ md0 md1 md2 md3 md4 md5 md6 md7 md8 md9 H.size u_md (xs (v3 + (1 : Int32)).toNatClampNeg) z121 hz_z121) (cwV 1 hts gL_law_X11_filled rfl rfl rfl ⟨rfl, hd_X11_filled⟩ ⟨Nat.le_of_ble_eq_true rfl, Nat.le_of_ble_eq_true rfl⟩) (k_preV hK hP hD hS hA hE [54, 55, 56, 57, 58, 59, 60, 61, 62, 63] (by decide) rfl (ci := 8) rfl rfl) rfl rfl hl.1 rfl (lv_room (Nat.le_of_ble_eq_true rfl)) dL_law_600 ⟨Nat.le_of_ble_eq_true rfl, Nat.le_of_ble_eq_true rfl⟩) hP hD hS hA [54, 55, 56, 57, 58, 59, 60, 61, 62, 63] [none, none, none, none, none, none, none, none, none, none, none, none, none, none, none, none, none, none, none, none, none, none, none, none, none, none, none, none, none, none, none, none, none, none, none, none, none, none, none, none, none, none, none, none, none, none, none, none, none, none, none, none, none, none, some 0, some 1, some 2, some 3, some 4, some 5, some 6, some 7, some 8, some 9] 10 rfl (by decide) (by decide) rfl rfl (fun H locs hP hD hS => ?_)
        have hP : va_P D vwCl (ceX th0 th1 th2 th3 th4 th5 th6 th7 th8 th9 ++ (ceW cI cZ th1 wheel1 wheel2 wheel3 wheel4 u_wheel ++ (ceW cI cZ th2 trial1 trial2 trial3 trial4 u_trial ++ (ceP cI cZ th3 pad1 u_pad ++ (ceS cI cZ th4 sights1 sights2 u_sights ++ (ceT cI cZ th5 telling1 telling2 telling3 telling4 telling5 z119.2 ++ (ceG cI cZ th6 seating1 seating2 seating3 seating4 seating5 seating6 u_seating ++ (ceU cI cZ th7 turns1 turns2 turns3 turns4 turns5 turns6 u_turns ++ (ceI cI cZ th8 firstImage1 firstImage2 firstImage3 firstImage4 firstImage5 firstImage6 firstImage7 firstImage8 u_firstImage ++ (ceI cI cZ th9 secondImage1 secondImage2 secondImage3 secondImage4 secondImage5 secondImage6 secondImage7 secondImage8 u_secondImage ++ (ceM cI cZ md0 md1 md2 md3 md4 md5 md6 md7 md8 md9 z121.2))))))))))) H := hP
        have hD : va_D A (ceX th0 th1 th2 th3 th4 th5 th6 th7 th8 th9 ++ (ceW cI cZ th1 wheel1 wheel2 wheel3 wheel4 u_wheel ++ (ceW cI cZ th2 trial1 trial2 trial3 trial4 u_trial ++ (ceP cI cZ th3 pad1 u_pad ++ (ceS cI cZ th4 sights1 sights2 u_sights ++ (ceT cI cZ th5 telling1 telling2 telling3 telling4 telling5 z119.2 ++ (ceG cI cZ th6 seating1 seating2 seating3 seating4 seating5 seating6 u_seating ++ (ceU cI cZ th7 turns1 turns2 turns3 turns4 turns5 turns6 u_turns ++ (ceI cI cZ th8 firstImage1 firstImage2 firstImage3 firstImage4 firstImage5 firstImage6 firstImage7 firstImage8 u_firstImage ++ (ceI cI cZ th9 secondImage1 secondImage2 secondImage3 secondImage4 secondImage5 secondImage6 secondImage7 secondImage8 u_secondImage ++ (ceM cI cZ md0 md1 md2 md3 md4 md5 md6 md7 md8 md9 z121.2))))))))))) := hD
        refine lv_icmp_eq (tgt := 764) hx hb dL_law_603 (by decide) (fun c122 => ?_) (fun c122 => ?_)
        · have hf := (if_pos c122).symm.trans hf
          refine lv_iinc (v := (v3 + (4 : Int32))) (lv' := [(3, .int (v3 + (4 : Int32))), (0, .ref b), (1, .ref th0), (2, .ref md0)]) hx hb dL_law_764 hl (k := 3) rfl rfl (by decide) rfl (fun ls hl => ?_)
          refine lv_goto (tgt := 18) hx hb dL_law_767 (by decide) ?_
          exact ih (v3 + (4 : Int32)) u_wheel u_trial u_pad u_sights z119.2 u_seating u_turns u_firstImage u_secondImage z121.2 _ _ ls (lv_sub hl [1, 2, 3, 0] rfl) hP hD hS hf
        · have hf := (if_neg c122).symm.trans hf
          refine lv_iconst (v := 0) hx hb dL_law_606 (by decide) ?_
          exact absurd (Option.some.inj hf) (by decide)
      have hf := (if_neg c117).symm.trans hf
      by_cases c123 : ((xs v3.toNatClampNeg) &&& (31 : Int32)) = 20
      · have hf := (if_pos c123).symm.trans hf
        refine lv_tableIn hx hb dL_law_32 (by rw [c123]; decide) (by rw [c123]; decide) (off := 576) (tgt := 608) (by rw [c123]; rfl) (by decide) ?_
        refine lv_aload_n hx hb dL_law_608 rfl (lv_at hl 1 rfl) ?_
        refine lv_aload_n hx hb dL_law_609 rfl (lv_at hl 0 rfl) ?_
        refine lv_iload_n hx hb dL_law_610 rfl (lv_at hl 3 rfl) ?_
        refine lv_iconst (v := 1) hx hb dL_law_611 (by decide) ?_
        refine lv_iadd hx hb dL_law_612 ?_
        by_cases c124 : (v3 + (1 : Int32)) < 0 ∨ L ≤ (v3 + (1 : Int32)).toNatClampNeg
        · have hf := (if_pos c124).symm.trans hf
          cases hf
        have hf := (if_neg c124).symm.trans hf
        refine va_sld hx hb hX hbl hbA hS (show vp_in (v3 + (1 : Int32)) L from c124) dL_law_613 ?_
        refine lv_aload_n hx hb dL_law_614 rfl (lv_at hl 0 rfl) ?_
        refine lv_iload_n hx hb dL_law_615 rfl (lv_at hl 3 rfl) ?_
        refine lv_iconst (v := 2) hx hb dL_law_616 (by decide) ?_
        refine lv_iadd hx hb dL_law_617 ?_
        by_cases c125 : (v3 + (2 : Int32)) < 0 ∨ L ≤ (v3 + (2 : Int32)).toNatClampNeg
        · have hf := (if_pos c125).symm.trans hf
          cases hf
        have hf := (if_neg c125).symm.trans hf
        refine va_sld hx hb hX hbl hbA hS (show vp_in (v3 + (2 : Int32)) L from c125) dL_law_618 ?_
        refine lv_aload_n hx hb dL_law_619 rfl (lv_at hl 0 rfl) ?_
        refine lv_iload_n hx hb dL_law_620 rfl (lv_at hl 3 rfl) ?_
        refine lv_iconst (v := 3) hx hb dL_law_621 (by decide) ?_
        refine lv_iadd hx hb dL_law_622 ?_
        by_cases c126 : (v3 + (3 : Int32)) < 0 ∨ L ≤ (v3 + (3 : Int32)).toNatClampNeg
        · have hf := (if_pos c126).symm.trans hf
          cases hf
        have hf := (if_neg c126).symm.trans hf
        refine va_sld hx hb hX hbl hbA hS (show vp_in (v3 + (3 : Int32)) L from c126) dL_law_623 ?_
        obtain ⟨z127, hz_z127, hf⟩ := o_bind hf
        refine k_calll (va_runV (As := [.int (xs (v3 + (1 : Int32)).toNatClampNeg), .int (xs (v3 + (2 : Int32)).toNatClampNeg), .int (xs (v3 + (3 : Int32)).toNatClampNeg)]) (rest := []) ⟨hx, hb, hml, hown, hts⟩ (c_X10_chance l D cI cZ th0 th1 th2 th3 th4 th5 th6 th7 th8 th9 wheel1 wheel2 wheel3 wheel4 trial1 trial2 trial3 trial4 H.size u_wheel u_trial (xs (v3 + (1 : Int32)).toNatClampNeg) (xs (v3 + (2 : Int32)).toNatClampNeg) (xs (v3 + (3 : Int32)).toNatClampNeg) z127 hz_z127) (cwV 3 hts gL_law_X10_chance rfl rfl rfl ⟨rfl, hd_X10_chance⟩ ⟨Nat.le_of_ble_eq_true rfl, Nat.le_of_ble_eq_true rfl⟩) (k_preV hK hP hD hS hA hE [0, 1, 2, 3, 4, 5, 6, 7, 8, 9, 10] (by decide) rfl (ci := 7) rfl rfl) rfl rfl hl.1 rfl (lv_room (Nat.le_of_ble_eq_true rfl)) dL_law_624 ⟨Nat.le_of_ble_eq_true rfl, Nat.le_of_ble_eq_true rfl⟩) hP hD hS hA [0, 1, 2, 3, 4, 5, 6, 7, 8, 9, 10] [some 0, some 1, some 2, some 3, some 4, some 5, some 6, some 7, some 8, some 9, some 10, none, none, none, none, none, none, none, none, none, none, none, none, none, none, none, none, none, none, none, none, none, none, none, none, none, none, none, none, none, none, none, none, none, none, none, none, none, none, none, none, none, none, none, none, none, none, none, none, none, none, none, none, none] 11 rfl (by decide) (by decide) rfl rfl (fun H locs hP hD hS => ?_)
        have hP : va_P D vwCl (ceX th0 th1 th2 th3 th4 th5 th6 th7 th8 th9 ++ (ceW cI cZ th1 wheel1 wheel2 wheel3 wheel4 u_wheel ++ (ceW cI cZ th2 trial1 trial2 trial3 trial4 z127.2 ++ (ceP cI cZ th3 pad1 u_pad ++ (ceS cI cZ th4 sights1 sights2 u_sights ++ (ceT cI cZ th5 telling1 telling2 telling3 telling4 telling5 u_telling ++ (ceG cI cZ th6 seating1 seating2 seating3 seating4 seating5 seating6 u_seating ++ (ceU cI cZ th7 turns1 turns2 turns3 turns4 turns5 turns6 u_turns ++ (ceI cI cZ th8 firstImage1 firstImage2 firstImage3 firstImage4 firstImage5 firstImage6 firstImage7 firstImage8 u_firstImage ++ (ceI cI cZ th9 secondImage1 secondImage2 secondImage3 secondImage4 secondImage5 secondImage6 secondImage7 secondImage8 u_secondImage ++ (ceM cI cZ md0 md1 md2 md3 md4 md5 md6 md7 md8 md9 u_md))))))))))) H := hP
        have hD : va_D A (ceX th0 th1 th2 th3 th4 th5 th6 th7 th8 th9 ++ (ceW cI cZ th1 wheel1 wheel2 wheel3 wheel4 u_wheel ++ (ceW cI cZ th2 trial1 trial2 trial3 trial4 z127.2 ++ (ceP cI cZ th3 pad1 u_pad ++ (ceS cI cZ th4 sights1 sights2 u_sights ++ (ceT cI cZ th5 telling1 telling2 telling3 telling4 telling5 u_telling ++ (ceG cI cZ th6 seating1 seating2 seating3 seating4 seating5 seating6 u_seating ++ (ceU cI cZ th7 turns1 turns2 turns3 turns4 turns5 turns6 u_turns ++ (ceI cI cZ th8 firstImage1 firstImage2 firstImage3 firstImage4 firstImage5 firstImage6 firstImage7 firstImage8 u_firstImage ++ (ceI cI cZ th9 secondImage1 secondImage2 secondImage3 secondImage4 secondImage5 secondImage6 secondImage7 secondImage8 u_secondImage ++ (ceM cI cZ md0 md1 md2 md3 md4 md5 md6 md7 md8 md9 u_md))))))))))) := hD
        refine lv_aload_n hx hb dL_law_627 rfl (lv_at hl 2 rfl) ?_
        refine lv_aload_n hx hb dL_law_628 rfl (lv_at hl 0 rfl) ?_
        refine lv_iload_n hx hb dL_law_629 rfl (lv_at hl 3 rfl) ?_
        refine lv_iconst (v := 1) hx hb dL_law_630 (by decide) ?_
        refine lv_iadd hx hb dL_law_631 ?_
        by_cases c128 : (v3 + (1 : Int32)) < 0 ∨ L ≤ (v3 + (1 : Int32)).toNatClampNeg
        · have hf := (if_pos c128).symm.trans hf
          cases hf
        have hf := (if_neg c128).symm.trans hf
        refine va_sld hx hb hX hbl hbA hS (show vp_in (v3 + (1 : Int32)) L from c128) dL_law_632 ?_
        refine lv_aload_n hx hb dL_law_633 rfl (lv_at hl 0 rfl) ?_
        refine lv_iload_n hx hb dL_law_634 rfl (lv_at hl 3 rfl) ?_
        refine lv_iconst (v := 2) hx hb dL_law_635 (by decide) ?_
        refine lv_iadd hx hb dL_law_636 ?_
        by_cases c129 : (v3 + (2 : Int32)) < 0 ∨ L ≤ (v3 + (2 : Int32)).toNatClampNeg
        · have hf := (if_pos c129).symm.trans hf
          cases hf
        have hf := (if_neg c129).symm.trans hf
        refine va_sld hx hb hX hbl hbA hS (show vp_in (v3 + (2 : Int32)) L from c129) dL_law_637 ?_
        refine lv_aload_n hx hb dL_law_638 rfl (lv_at hl 0 rfl) ?_
        refine lv_iload_n hx hb dL_law_639 rfl (lv_at hl 3 rfl) ?_
        refine lv_iconst (v := 3) hx hb dL_law_640 (by decide) ?_
        refine lv_iadd hx hb dL_law_641 ?_
        by_cases c130 : (v3 + (3 : Int32)) < 0 ∨ L ≤ (v3 + (3 : Int32)).toNatClampNeg
        · have hf := (if_pos c130).symm.trans hf
          cases hf
        have hf := (if_neg c130).symm.trans hf
        refine va_sld hx hb hX hbl hbA hS (show vp_in (v3 + (3 : Int32)) L from c130) dL_law_642 ?_
        obtain ⟨z131, hz_z131, hf⟩ := o_bind hf
        refine k_calll (va_runV (As := [.int (xs (v3 + (1 : Int32)).toNatClampNeg), .int (xs (v3 + (2 : Int32)).toNatClampNeg), .int (xs (v3 + (3 : Int32)).toNatClampNeg)]) (rest := [.long z127.1]) ⟨hx, hb, hml, hown, hts⟩ (c_X11_chance l D cI cZ md0 md1 md2 md3 md4 md5 md6 md7 md8 md9 H.size u_md (xs (v3 + (1 : Int32)).toNatClampNeg) (xs (v3 + (2 : Int32)).toNatClampNeg) (xs (v3 + (3 : Int32)).toNatClampNeg) z131 hz_z131) (cwV 3 hts gL_law_X11_chance rfl rfl rfl ⟨rfl, hd_X11_chance⟩ ⟨Nat.le_of_ble_eq_true rfl, Nat.le_of_ble_eq_true rfl⟩) (k_preV hK hP hD hS hA hE [54, 55, 56, 57, 58, 59, 60, 61, 62, 63] (by decide) rfl (ci := 8) rfl rfl) rfl rfl hl.1 rfl (lv_room (Nat.le_of_ble_eq_true rfl)) dL_law_643 ⟨Nat.le_of_ble_eq_true rfl, Nat.le_of_ble_eq_true rfl⟩) hP hD hS hA [54, 55, 56, 57, 58, 59, 60, 61, 62, 63] [none, none, none, none, none, none, none, none, none, none, none, none, none, none, none, none, none, none, none, none, none, none, none, none, none, none, none, none, none, none, none, none, none, none, none, none, none, none, none, none, none, none, none, none, none, none, none, none, none, none, none, none, none, none, some 0, some 1, some 2, some 3, some 4, some 5, some 6, some 7, some 8, some 9] 10 rfl (by decide) (by decide) rfl rfl (fun H locs hP hD hS => ?_)
        have hP : va_P D vwCl (ceX th0 th1 th2 th3 th4 th5 th6 th7 th8 th9 ++ (ceW cI cZ th1 wheel1 wheel2 wheel3 wheel4 u_wheel ++ (ceW cI cZ th2 trial1 trial2 trial3 trial4 z127.2 ++ (ceP cI cZ th3 pad1 u_pad ++ (ceS cI cZ th4 sights1 sights2 u_sights ++ (ceT cI cZ th5 telling1 telling2 telling3 telling4 telling5 u_telling ++ (ceG cI cZ th6 seating1 seating2 seating3 seating4 seating5 seating6 u_seating ++ (ceU cI cZ th7 turns1 turns2 turns3 turns4 turns5 turns6 u_turns ++ (ceI cI cZ th8 firstImage1 firstImage2 firstImage3 firstImage4 firstImage5 firstImage6 firstImage7 firstImage8 u_firstImage ++ (ceI cI cZ th9 secondImage1 secondImage2 secondImage3 secondImage4 secondImage5 secondImage6 secondImage7 secondImage8 u_secondImage ++ (ceM cI cZ md0 md1 md2 md3 md4 md5 md6 md7 md8 md9 z131.2))))))))))) H := hP
        have hD : va_D A (ceX th0 th1 th2 th3 th4 th5 th6 th7 th8 th9 ++ (ceW cI cZ th1 wheel1 wheel2 wheel3 wheel4 u_wheel ++ (ceW cI cZ th2 trial1 trial2 trial3 trial4 z127.2 ++ (ceP cI cZ th3 pad1 u_pad ++ (ceS cI cZ th4 sights1 sights2 u_sights ++ (ceT cI cZ th5 telling1 telling2 telling3 telling4 telling5 u_telling ++ (ceG cI cZ th6 seating1 seating2 seating3 seating4 seating5 seating6 u_seating ++ (ceU cI cZ th7 turns1 turns2 turns3 turns4 turns5 turns6 u_turns ++ (ceI cI cZ th8 firstImage1 firstImage2 firstImage3 firstImage4 firstImage5 firstImage6 firstImage7 firstImage8 u_firstImage ++ (ceI cI cZ th9 secondImage1 secondImage2 secondImage3 secondImage4 secondImage5 secondImage6 secondImage7 secondImage8 u_secondImage ++ (ceM cI cZ md0 md1 md2 md3 md4 md5 md6 md7 md8 md9 z131.2))))))))))) := hD
        refine W.lcmp hx hb dL_law_646 ?_
        refine lv_if_eq (tgt := 764) hx hb dL_law_647 (by decide) (fun c132 => ?_) (fun c132 => ?_)
        · have hf := (if_pos c132).symm.trans hf
          refine lv_iinc (v := (v3 + (4 : Int32))) (lv' := [(3, .int (v3 + (4 : Int32))), (0, .ref b), (1, .ref th0), (2, .ref md0)]) hx hb dL_law_764 hl (k := 3) rfl rfl (by decide) rfl (fun ls hl => ?_)
          refine lv_goto (tgt := 18) hx hb dL_law_767 (by decide) ?_
          exact ih (v3 + (4 : Int32)) u_wheel z127.2 u_pad u_sights u_telling u_seating u_turns u_firstImage u_secondImage z131.2 _ _ ls (lv_sub hl [1, 2, 3, 0] rfl) hP hD hS hf
        · have hf := (if_neg c132).symm.trans hf
          refine lv_iconst (v := 0) hx hb dL_law_650 (by decide) ?_
          exact absurd (Option.some.inj hf) (by decide)
      have hf := (if_neg c123).symm.trans hf
      by_cases c133 : ((xs v3.toNatClampNeg) &&& (31 : Int32)) = 21
      · have hf := (if_pos c133).symm.trans hf
        refine lv_tableIn hx hb dL_law_32 (by rw [c133]; decide) (by rw [c133]; decide) (off := 620) (tgt := 652) (by rw [c133]; rfl) (by decide) ?_
        refine lv_aload_n hx hb dL_law_652 rfl (lv_at hl 1 rfl) ?_
        refine lv_aload_n hx hb dL_law_653 rfl (lv_at hl 0 rfl) ?_
        refine lv_iload_n hx hb dL_law_654 rfl (lv_at hl 3 rfl) ?_
        refine lv_iconst (v := 1) hx hb dL_law_655 (by decide) ?_
        refine lv_iadd hx hb dL_law_656 ?_
        by_cases c134 : (v3 + (1 : Int32)) < 0 ∨ L ≤ (v3 + (1 : Int32)).toNatClampNeg
        · have hf := (if_pos c134).symm.trans hf
          cases hf
        have hf := (if_neg c134).symm.trans hf
        refine va_sld hx hb hX hbl hbA hS (show vp_in (v3 + (1 : Int32)) L from c134) dL_law_657 ?_
        refine lv_aload_n hx hb dL_law_658 rfl (lv_at hl 0 rfl) ?_
        refine lv_iload_n hx hb dL_law_659 rfl (lv_at hl 3 rfl) ?_
        refine lv_iconst (v := 2) hx hb dL_law_660 (by decide) ?_
        refine lv_iadd hx hb dL_law_661 ?_
        by_cases c135 : (v3 + (2 : Int32)) < 0 ∨ L ≤ (v3 + (2 : Int32)).toNatClampNeg
        · have hf := (if_pos c135).symm.trans hf
          cases hf
        have hf := (if_neg c135).symm.trans hf
        refine va_sld hx hb hX hbl hbA hS (show vp_in (v3 + (2 : Int32)) L from c135) dL_law_662 ?_
        refine lv_aload_n hx hb dL_law_663 rfl (lv_at hl 0 rfl) ?_
        refine lv_iload_n hx hb dL_law_664 rfl (lv_at hl 3 rfl) ?_
        refine lv_iconst (v := 3) hx hb dL_law_665 (by decide) ?_
        refine lv_iadd hx hb dL_law_666 ?_
        by_cases c136 : (v3 + (3 : Int32)) < 0 ∨ L ≤ (v3 + (3 : Int32)).toNatClampNeg
        · have hf := (if_pos c136).symm.trans hf
          cases hf
        have hf := (if_neg c136).symm.trans hf
        refine va_sld hx hb hX hbl hbA hS (show vp_in (v3 + (3 : Int32)) L from c136) dL_law_667 ?_
        obtain ⟨z137, hz_z137, hf⟩ := o_bind hf
        refine k_calli (va_runV (As := [.int (xs (v3 + (1 : Int32)).toNatClampNeg), .int (xs (v3 + (2 : Int32)).toNatClampNeg), .int (xs (v3 + (3 : Int32)).toNatClampNeg)]) (rest := []) ⟨hx, hb, hml, hown, hts⟩ (c_X10_year l D cI cZ th0 th1 th2 th3 th4 th5 th6 th7 th8 th9 wheel1 wheel2 wheel3 wheel4 turns1 turns2 turns3 turns4 turns5 turns6 H.size u_wheel u_turns (xs (v3 + (1 : Int32)).toNatClampNeg) (xs (v3 + (2 : Int32)).toNatClampNeg) (xs (v3 + (3 : Int32)).toNatClampNeg) z137 hz_z137) (cwV 3 hts gL_law_X10_year rfl rfl rfl ⟨rfl, hd_X10_year⟩ ⟨Nat.le_of_ble_eq_true rfl, Nat.le_of_ble_eq_true rfl⟩) (k_preV hK hP hD hS hA hE [0, 1, 2, 3, 4, 5, 29, 30, 31, 32, 33, 34, 35] (by decide) rfl (ci := 7) rfl rfl) rfl rfl hl.1 rfl (lv_room (Nat.le_of_ble_eq_true rfl)) dL_law_668 ⟨Nat.le_of_ble_eq_true rfl, Nat.le_of_ble_eq_true rfl⟩) hP hD hS hA [0, 1, 2, 3, 4, 5, 29, 30, 31, 32, 33, 34, 35] [some 0, some 1, some 2, some 3, some 4, some 5, none, none, none, none, none, none, none, none, none, none, none, none, none, none, none, none, none, none, none, none, none, none, none, some 6, some 7, some 8, some 9, some 10, some 11, some 12, none, none, none, none, none, none, none, none, none, none, none, none, none, none, none, none, none, none, none, none, none, none, none, none, none, none, none, none] 13 rfl (by decide) (by decide) rfl rfl (fun H locs hP hD hS => ?_)
        have hP : va_P D vwCl (ceX th0 th1 th2 th3 th4 th5 th6 th7 th8 th9 ++ (ceW cI cZ th1 wheel1 wheel2 wheel3 wheel4 u_wheel ++ (ceW cI cZ th2 trial1 trial2 trial3 trial4 u_trial ++ (ceP cI cZ th3 pad1 u_pad ++ (ceS cI cZ th4 sights1 sights2 u_sights ++ (ceT cI cZ th5 telling1 telling2 telling3 telling4 telling5 u_telling ++ (ceG cI cZ th6 seating1 seating2 seating3 seating4 seating5 seating6 u_seating ++ (ceU cI cZ th7 turns1 turns2 turns3 turns4 turns5 turns6 z137.2 ++ (ceI cI cZ th8 firstImage1 firstImage2 firstImage3 firstImage4 firstImage5 firstImage6 firstImage7 firstImage8 u_firstImage ++ (ceI cI cZ th9 secondImage1 secondImage2 secondImage3 secondImage4 secondImage5 secondImage6 secondImage7 secondImage8 u_secondImage ++ (ceM cI cZ md0 md1 md2 md3 md4 md5 md6 md7 md8 md9 u_md))))))))))) H := hP
        have hD : va_D A (ceX th0 th1 th2 th3 th4 th5 th6 th7 th8 th9 ++ (ceW cI cZ th1 wheel1 wheel2 wheel3 wheel4 u_wheel ++ (ceW cI cZ th2 trial1 trial2 trial3 trial4 u_trial ++ (ceP cI cZ th3 pad1 u_pad ++ (ceS cI cZ th4 sights1 sights2 u_sights ++ (ceT cI cZ th5 telling1 telling2 telling3 telling4 telling5 u_telling ++ (ceG cI cZ th6 seating1 seating2 seating3 seating4 seating5 seating6 u_seating ++ (ceU cI cZ th7 turns1 turns2 turns3 turns4 turns5 turns6 z137.2 ++ (ceI cI cZ th8 firstImage1 firstImage2 firstImage3 firstImage4 firstImage5 firstImage6 firstImage7 firstImage8 u_firstImage ++ (ceI cI cZ th9 secondImage1 secondImage2 secondImage3 secondImage4 secondImage5 secondImage6 secondImage7 secondImage8 u_secondImage ++ (ceM cI cZ md0 md1 md2 md3 md4 md5 md6 md7 md8 md9 u_md))))))))))) := hD
        refine lv_aload_n hx hb dL_law_671 rfl (lv_at hl 2 rfl) ?_
        refine lv_aload_n hx hb dL_law_672 rfl (lv_at hl 0 rfl) ?_
        refine lv_iload_n hx hb dL_law_673 rfl (lv_at hl 3 rfl) ?_
        refine lv_iconst (v := 1) hx hb dL_law_674 (by decide) ?_
        refine lv_iadd hx hb dL_law_675 ?_
        by_cases c138 : (v3 + (1 : Int32)) < 0 ∨ L ≤ (v3 + (1 : Int32)).toNatClampNeg
        · have hf := (if_pos c138).symm.trans hf
          cases hf
        have hf := (if_neg c138).symm.trans hf
        refine va_sld hx hb hX hbl hbA hS (show vp_in (v3 + (1 : Int32)) L from c138) dL_law_676 ?_
        refine lv_aload_n hx hb dL_law_677 rfl (lv_at hl 0 rfl) ?_
        refine lv_iload_n hx hb dL_law_678 rfl (lv_at hl 3 rfl) ?_
        refine lv_iconst (v := 2) hx hb dL_law_679 (by decide) ?_
        refine lv_iadd hx hb dL_law_680 ?_
        by_cases c139 : (v3 + (2 : Int32)) < 0 ∨ L ≤ (v3 + (2 : Int32)).toNatClampNeg
        · have hf := (if_pos c139).symm.trans hf
          cases hf
        have hf := (if_neg c139).symm.trans hf
        refine va_sld hx hb hX hbl hbA hS (show vp_in (v3 + (2 : Int32)) L from c139) dL_law_681 ?_
        refine lv_aload_n hx hb dL_law_682 rfl (lv_at hl 0 rfl) ?_
        refine lv_iload_n hx hb dL_law_683 rfl (lv_at hl 3 rfl) ?_
        refine lv_iconst (v := 3) hx hb dL_law_684 (by decide) ?_
        refine lv_iadd hx hb dL_law_685 ?_
        by_cases c140 : (v3 + (3 : Int32)) < 0 ∨ L ≤ (v3 + (3 : Int32)).toNatClampNeg
        · have hf := (if_pos c140).symm.trans hf
          cases hf
        have hf := (if_neg c140).symm.trans hf
        refine va_sld hx hb hX hbl hbA hS (show vp_in (v3 + (3 : Int32)) L from c140) dL_law_686 ?_
        obtain ⟨z141, hz_z141, hf⟩ := o_bind hf
        refine k_calli (va_runV (As := [.int (xs (v3 + (1 : Int32)).toNatClampNeg), .int (xs (v3 + (2 : Int32)).toNatClampNeg), .int (xs (v3 + (3 : Int32)).toNatClampNeg)]) (rest := [.int z137.1]) ⟨hx, hb, hml, hown, hts⟩ (c_X11_year l D cI cZ md0 md1 md2 md3 md4 md5 md6 md7 md8 md9 H.size u_md (xs (v3 + (1 : Int32)).toNatClampNeg) (xs (v3 + (2 : Int32)).toNatClampNeg) (xs (v3 + (3 : Int32)).toNatClampNeg) z141 hz_z141) (cwV 3 hts gL_law_X11_year rfl rfl rfl ⟨rfl, hd_X11_year⟩ ⟨Nat.le_of_ble_eq_true rfl, Nat.le_of_ble_eq_true rfl⟩) (k_preV hK hP hD hS hA hE [54, 55, 56, 57, 58, 59, 60, 61, 62, 63] (by decide) rfl (ci := 8) rfl rfl) rfl rfl hl.1 rfl (lv_room (Nat.le_of_ble_eq_true rfl)) dL_law_687 ⟨Nat.le_of_ble_eq_true rfl, Nat.le_of_ble_eq_true rfl⟩) hP hD hS hA [54, 55, 56, 57, 58, 59, 60, 61, 62, 63] [none, none, none, none, none, none, none, none, none, none, none, none, none, none, none, none, none, none, none, none, none, none, none, none, none, none, none, none, none, none, none, none, none, none, none, none, none, none, none, none, none, none, none, none, none, none, none, none, none, none, none, none, none, none, some 0, some 1, some 2, some 3, some 4, some 5, some 6, some 7, some 8, some 9] 10 rfl (by decide) (by decide) rfl rfl (fun H locs hP hD hS => ?_)
        have hP : va_P D vwCl (ceX th0 th1 th2 th3 th4 th5 th6 th7 th8 th9 ++ (ceW cI cZ th1 wheel1 wheel2 wheel3 wheel4 u_wheel ++ (ceW cI cZ th2 trial1 trial2 trial3 trial4 u_trial ++ (ceP cI cZ th3 pad1 u_pad ++ (ceS cI cZ th4 sights1 sights2 u_sights ++ (ceT cI cZ th5 telling1 telling2 telling3 telling4 telling5 u_telling ++ (ceG cI cZ th6 seating1 seating2 seating3 seating4 seating5 seating6 u_seating ++ (ceU cI cZ th7 turns1 turns2 turns3 turns4 turns5 turns6 z137.2 ++ (ceI cI cZ th8 firstImage1 firstImage2 firstImage3 firstImage4 firstImage5 firstImage6 firstImage7 firstImage8 u_firstImage ++ (ceI cI cZ th9 secondImage1 secondImage2 secondImage3 secondImage4 secondImage5 secondImage6 secondImage7 secondImage8 u_secondImage ++ (ceM cI cZ md0 md1 md2 md3 md4 md5 md6 md7 md8 md9 z141.2))))))))))) H := hP
        have hD : va_D A (ceX th0 th1 th2 th3 th4 th5 th6 th7 th8 th9 ++ (ceW cI cZ th1 wheel1 wheel2 wheel3 wheel4 u_wheel ++ (ceW cI cZ th2 trial1 trial2 trial3 trial4 u_trial ++ (ceP cI cZ th3 pad1 u_pad ++ (ceS cI cZ th4 sights1 sights2 u_sights ++ (ceT cI cZ th5 telling1 telling2 telling3 telling4 telling5 u_telling ++ (ceG cI cZ th6 seating1 seating2 seating3 seating4 seating5 seating6 u_seating ++ (ceU cI cZ th7 turns1 turns2 turns3 turns4 turns5 turns6 z137.2 ++ (ceI cI cZ th8 firstImage1 firstImage2 firstImage3 firstImage4 firstImage5 firstImage6 firstImage7 firstImage8 u_firstImage ++ (ceI cI cZ th9 secondImage1 secondImage2 secondImage3 secondImage4 secondImage5 secondImage6 secondImage7 secondImage8 u_secondImage ++ (ceM cI cZ md0 md1 md2 md3 md4 md5 md6 md7 md8 md9 z141.2))))))))))) := hD
        refine lv_icmp_eq (tgt := 764) hx hb dL_law_690 (by decide) (fun c142 => ?_) (fun c142 => ?_)
        · have hf := (if_pos c142).symm.trans hf
          refine lv_iinc (v := (v3 + (4 : Int32))) (lv' := [(3, .int (v3 + (4 : Int32))), (0, .ref b), (1, .ref th0), (2, .ref md0)]) hx hb dL_law_764 hl (k := 3) rfl rfl (by decide) rfl (fun ls hl => ?_)
          refine lv_goto (tgt := 18) hx hb dL_law_767 (by decide) ?_
          exact ih (v3 + (4 : Int32)) u_wheel u_trial u_pad u_sights u_telling u_seating z137.2 u_firstImage u_secondImage z141.2 _ _ ls (lv_sub hl [1, 2, 3, 0] rfl) hP hD hS hf
        · have hf := (if_neg c142).symm.trans hf
          refine lv_iconst (v := 0) hx hb dL_law_693 (by decide) ?_
          exact absurd (Option.some.inj hf) (by decide)
      have hf := (if_neg c133).symm.trans hf
      by_cases c143 : ((xs v3.toNatClampNeg) &&& (31 : Int32)) = 22
      · have hf := (if_pos c143).symm.trans hf
        refine lv_tableIn hx hb dL_law_32 (by rw [c143]; decide) (by rw [c143]; decide) (off := 663) (tgt := 695) (by rw [c143]; rfl) (by decide) ?_
        refine lv_aload_n hx hb dL_law_695 rfl (lv_at hl 1 rfl) ?_
        refine lv_aload_n hx hb dL_law_696 rfl (lv_at hl 0 rfl) ?_
        refine lv_iload_n hx hb dL_law_697 rfl (lv_at hl 3 rfl) ?_
        refine lv_iconst (v := 1) hx hb dL_law_698 (by decide) ?_
        refine lv_iadd hx hb dL_law_699 ?_
        by_cases c144 : (v3 + (1 : Int32)) < 0 ∨ L ≤ (v3 + (1 : Int32)).toNatClampNeg
        · have hf := (if_pos c144).symm.trans hf
          cases hf
        have hf := (if_neg c144).symm.trans hf
        refine va_sld hx hb hX hbl hbA hS (show vp_in (v3 + (1 : Int32)) L from c144) dL_law_700 ?_
        obtain ⟨z145, hz_z145, hf⟩ := o_bind hf
        refine k_calli (va_runV (As := [.int (xs (v3 + (1 : Int32)).toNatClampNeg)]) (rest := []) ⟨hx, hb, hml, hown, hts⟩ (c_X10_image l D cI cZ th0 th1 th2 th3 th4 th5 th6 th7 th8 th9 wheel1 wheel2 wheel3 wheel4 sights1 sights2 firstImage1 firstImage2 firstImage3 firstImage4 firstImage5 firstImage6 firstImage7 firstImage8 secondImage1 secondImage2 secondImage3 secondImage4 secondImage5 secondImage6 secondImage7 secondImage8 H.size u_wheel u_sights u_firstImage u_secondImage (xs (v3 + (1 : Int32)).toNatClampNeg) z145 hz_z145) (cwV 1 hts gL_law_X10_image rfl rfl rfl ⟨rfl, hd_X10_image⟩ ⟨Nat.le_of_ble_eq_true rfl, Nat.le_of_ble_eq_true rfl⟩) (k_preV hK hP hD hS hA hE [0, 1, 2, 3, 4, 5, 13, 14, 15, 36, 37, 38, 39, 40, 41, 42, 43, 44, 45, 46, 47, 48, 49, 50, 51, 52, 53] (by decide) rfl (ci := 7) rfl rfl) rfl rfl hl.1 rfl (lv_room (Nat.le_of_ble_eq_true rfl)) dL_law_701 ⟨Nat.le_of_ble_eq_true rfl, Nat.le_of_ble_eq_true rfl⟩) hP hD hS hA [0, 1, 2, 3, 4, 5, 13, 14, 15, 36, 37, 38, 39, 40, 41, 42, 43, 44, 45, 46, 47, 48, 49, 50, 51, 52, 53] [some 0, some 1, some 2, some 3, some 4, some 5, none, none, none, none, none, none, none, some 6, some 7, some 8, none, none, none, none, none, none, none, none, none, none, none, none, none, none, none, none, none, none, none, none, some 9, some 10, some 11, some 12, some 13, some 14, some 15, some 16, some 17, some 18, some 19, some 20, some 21, some 22, some 23, some 24, some 25, some 26, none, none, none, none, none, none, none, none, none, none] 27 rfl (by decide) (by decide) rfl rfl (fun H locs hP hD hS => ?_)
        have hP : va_P D vwCl (ceX th0 th1 th2 th3 th4 th5 th6 th7 th8 th9 ++ (ceW cI cZ th1 wheel1 wheel2 wheel3 wheel4 u_wheel ++ (ceW cI cZ th2 trial1 trial2 trial3 trial4 u_trial ++ (ceP cI cZ th3 pad1 u_pad ++ (ceS cI cZ th4 sights1 sights2 u_sights ++ (ceT cI cZ th5 telling1 telling2 telling3 telling4 telling5 u_telling ++ (ceG cI cZ th6 seating1 seating2 seating3 seating4 seating5 seating6 u_seating ++ (ceU cI cZ th7 turns1 turns2 turns3 turns4 turns5 turns6 u_turns ++ (ceI cI cZ th8 firstImage1 firstImage2 firstImage3 firstImage4 firstImage5 firstImage6 firstImage7 firstImage8 z145.2.1 ++ (ceI cI cZ th9 secondImage1 secondImage2 secondImage3 secondImage4 secondImage5 secondImage6 secondImage7 secondImage8 z145.2.2 ++ (ceM cI cZ md0 md1 md2 md3 md4 md5 md6 md7 md8 md9 u_md))))))))))) H := hP
        have hD : va_D A (ceX th0 th1 th2 th3 th4 th5 th6 th7 th8 th9 ++ (ceW cI cZ th1 wheel1 wheel2 wheel3 wheel4 u_wheel ++ (ceW cI cZ th2 trial1 trial2 trial3 trial4 u_trial ++ (ceP cI cZ th3 pad1 u_pad ++ (ceS cI cZ th4 sights1 sights2 u_sights ++ (ceT cI cZ th5 telling1 telling2 telling3 telling4 telling5 u_telling ++ (ceG cI cZ th6 seating1 seating2 seating3 seating4 seating5 seating6 u_seating ++ (ceU cI cZ th7 turns1 turns2 turns3 turns4 turns5 turns6 u_turns ++ (ceI cI cZ th8 firstImage1 firstImage2 firstImage3 firstImage4 firstImage5 firstImage6 firstImage7 firstImage8 z145.2.1 ++ (ceI cI cZ th9 secondImage1 secondImage2 secondImage3 secondImage4 secondImage5 secondImage6 secondImage7 secondImage8 z145.2.2 ++ (ceM cI cZ md0 md1 md2 md3 md4 md5 md6 md7 md8 md9 u_md))))))))))) := hD
        refine lv_aload_n hx hb dL_law_704 rfl (lv_at hl 2 rfl) ?_
        refine lv_aload_n hx hb dL_law_705 rfl (lv_at hl 0 rfl) ?_
        refine lv_iload_n hx hb dL_law_706 rfl (lv_at hl 3 rfl) ?_
        refine lv_iconst (v := 1) hx hb dL_law_707 (by decide) ?_
        refine lv_iadd hx hb dL_law_708 ?_
        by_cases c146 : (v3 + (1 : Int32)) < 0 ∨ L ≤ (v3 + (1 : Int32)).toNatClampNeg
        · have hf := (if_pos c146).symm.trans hf
          cases hf
        have hf := (if_neg c146).symm.trans hf
        refine va_sld hx hb hX hbl hbA hS (show vp_in (v3 + (1 : Int32)) L from c146) dL_law_709 ?_
        obtain ⟨z147, hz_z147, hf⟩ := o_bind hf
        refine k_calli (va_runV (As := [.int (xs (v3 + (1 : Int32)).toNatClampNeg)]) (rest := [.int z145.1]) ⟨hx, hb, hml, hown, hts⟩ (c_X11_image l D cI cZ md0 md1 md2 md3 md4 md5 md6 md7 md8 md9 H.size u_md (xs (v3 + (1 : Int32)).toNatClampNeg) z147 hz_z147) (cwV 1 hts gL_law_X11_image rfl rfl rfl ⟨rfl, hd_X11_image⟩ ⟨Nat.le_of_ble_eq_true rfl, Nat.le_of_ble_eq_true rfl⟩) (k_preV hK hP hD hS hA hE [54, 55, 56, 57, 58, 59, 60, 61, 62, 63] (by decide) rfl (ci := 8) rfl rfl) rfl rfl hl.1 rfl (lv_room (Nat.le_of_ble_eq_true rfl)) dL_law_710 ⟨Nat.le_of_ble_eq_true rfl, Nat.le_of_ble_eq_true rfl⟩) hP hD hS hA [54, 55, 56, 57, 58, 59, 60, 61, 62, 63] [none, none, none, none, none, none, none, none, none, none, none, none, none, none, none, none, none, none, none, none, none, none, none, none, none, none, none, none, none, none, none, none, none, none, none, none, none, none, none, none, none, none, none, none, none, none, none, none, none, none, none, none, none, none, some 0, some 1, some 2, some 3, some 4, some 5, some 6, some 7, some 8, some 9] 10 rfl (by decide) (by decide) rfl rfl (fun H locs hP hD hS => ?_)
        have hP : va_P D vwCl (ceX th0 th1 th2 th3 th4 th5 th6 th7 th8 th9 ++ (ceW cI cZ th1 wheel1 wheel2 wheel3 wheel4 u_wheel ++ (ceW cI cZ th2 trial1 trial2 trial3 trial4 u_trial ++ (ceP cI cZ th3 pad1 u_pad ++ (ceS cI cZ th4 sights1 sights2 u_sights ++ (ceT cI cZ th5 telling1 telling2 telling3 telling4 telling5 u_telling ++ (ceG cI cZ th6 seating1 seating2 seating3 seating4 seating5 seating6 u_seating ++ (ceU cI cZ th7 turns1 turns2 turns3 turns4 turns5 turns6 u_turns ++ (ceI cI cZ th8 firstImage1 firstImage2 firstImage3 firstImage4 firstImage5 firstImage6 firstImage7 firstImage8 z145.2.1 ++ (ceI cI cZ th9 secondImage1 secondImage2 secondImage3 secondImage4 secondImage5 secondImage6 secondImage7 secondImage8 z145.2.2 ++ (ceM cI cZ md0 md1 md2 md3 md4 md5 md6 md7 md8 md9 z147.2))))))))))) H := hP
        have hD : va_D A (ceX th0 th1 th2 th3 th4 th5 th6 th7 th8 th9 ++ (ceW cI cZ th1 wheel1 wheel2 wheel3 wheel4 u_wheel ++ (ceW cI cZ th2 trial1 trial2 trial3 trial4 u_trial ++ (ceP cI cZ th3 pad1 u_pad ++ (ceS cI cZ th4 sights1 sights2 u_sights ++ (ceT cI cZ th5 telling1 telling2 telling3 telling4 telling5 u_telling ++ (ceG cI cZ th6 seating1 seating2 seating3 seating4 seating5 seating6 u_seating ++ (ceU cI cZ th7 turns1 turns2 turns3 turns4 turns5 turns6 u_turns ++ (ceI cI cZ th8 firstImage1 firstImage2 firstImage3 firstImage4 firstImage5 firstImage6 firstImage7 firstImage8 z145.2.1 ++ (ceI cI cZ th9 secondImage1 secondImage2 secondImage3 secondImage4 secondImage5 secondImage6 secondImage7 secondImage8 z145.2.2 ++ (ceM cI cZ md0 md1 md2 md3 md4 md5 md6 md7 md8 md9 z147.2))))))))))) := hD
        refine lv_icmp_eq (tgt := 764) hx hb dL_law_713 (by decide) (fun c148 => ?_) (fun c148 => ?_)
        · have hf := (if_pos c148).symm.trans hf
          refine lv_iinc (v := (v3 + (4 : Int32))) (lv' := [(3, .int (v3 + (4 : Int32))), (0, .ref b), (1, .ref th0), (2, .ref md0)]) hx hb dL_law_764 hl (k := 3) rfl rfl (by decide) rfl (fun ls hl => ?_)
          refine lv_goto (tgt := 18) hx hb dL_law_767 (by decide) ?_
          exact ih (v3 + (4 : Int32)) u_wheel u_trial u_pad u_sights u_telling u_seating u_turns z145.2.1 z145.2.2 z147.2 _ _ ls (lv_sub hl [1, 2, 3, 0] rfl) hP hD hS hf
        · have hf := (if_neg c148).symm.trans hf
          refine lv_iconst (v := 0) hx hb dL_law_716 (by decide) ?_
          exact absurd (Option.some.inj hf) (by decide)
      have hf := (if_neg c143).symm.trans hf
      by_cases c149 : ((xs v3.toNatClampNeg) &&& (31 : Int32)) = 23
      · have hf := (if_pos c149).symm.trans hf
        refine lv_tableIn hx hb dL_law_32 (by rw [c149]; decide) (by rw [c149]; decide) (off := 686) (tgt := 718) (by rw [c149]; rfl) (by decide) ?_
        refine lv_aload_n hx hb dL_law_718 rfl (lv_at hl 1 rfl) ?_
        refine lv_aload_n hx hb dL_law_719 rfl (lv_at hl 0 rfl) ?_
        refine lv_iload_n hx hb dL_law_720 rfl (lv_at hl 3 rfl) ?_
        refine lv_iconst (v := 1) hx hb dL_law_721 (by decide) ?_
        refine lv_iadd hx hb dL_law_722 ?_
        by_cases c150 : (v3 + (1 : Int32)) < 0 ∨ L ≤ (v3 + (1 : Int32)).toNatClampNeg
        · have hf := (if_pos c150).symm.trans hf
          cases hf
        have hf := (if_neg c150).symm.trans hf
        refine va_sld hx hb hX hbl hbA hS (show vp_in (v3 + (1 : Int32)) L from c150) dL_law_723 ?_
        obtain ⟨z151, hz_z151, hf⟩ := o_bind hf
        refine k_calli (va_runV (As := [.int (xs (v3 + (1 : Int32)).toNatClampNeg)]) (rest := []) ⟨hx, hb, hml, hown, hts⟩ (c_X10_restore l D cI cZ th0 th1 th2 th3 th4 th5 th6 th7 th8 th9 wheel1 wheel2 wheel3 wheel4 sights1 sights2 firstImage1 firstImage2 firstImage3 firstImage4 firstImage5 firstImage6 firstImage7 firstImage8 secondImage1 secondImage2 secondImage3 secondImage4 secondImage5 secondImage6 secondImage7 secondImage8 H.size u_wheel u_sights u_firstImage u_secondImage (xs (v3 + (1 : Int32)).toNatClampNeg) z151 hz_z151) (cwV 1 hts gL_law_X10_restore rfl rfl rfl ⟨rfl, hd_X10_restore⟩ ⟨Nat.le_of_ble_eq_true rfl, Nat.le_of_ble_eq_true rfl⟩) (k_preV hK hP hD hS hA hE [0, 1, 2, 3, 4, 5, 13, 14, 15, 36, 37, 38, 39, 40, 41, 42, 43, 44, 45, 46, 47, 48, 49, 50, 51, 52, 53] (by decide) rfl (ci := 7) rfl rfl) rfl rfl hl.1 rfl (lv_room (Nat.le_of_ble_eq_true rfl)) dL_law_724 ⟨Nat.le_of_ble_eq_true rfl, Nat.le_of_ble_eq_true rfl⟩) hP hD hS hA [0, 1, 2, 3, 4, 5, 13, 14, 15, 36, 37, 38, 39, 40, 41, 42, 43, 44, 45, 46, 47, 48, 49, 50, 51, 52, 53] [some 0, some 1, some 2, some 3, some 4, some 5, none, none, none, none, none, none, none, some 6, some 7, some 8, none, none, none, none, none, none, none, none, none, none, none, none, none, none, none, none, none, none, none, none, some 9, some 10, some 11, some 12, some 13, some 14, some 15, some 16, some 17, some 18, some 19, some 20, some 21, some 22, some 23, some 24, some 25, some 26, none, none, none, none, none, none, none, none, none, none] 27 rfl (by decide) (by decide) rfl rfl (fun H locs hP hD hS => ?_)
        have hP : va_P D vwCl (ceX th0 th1 th2 th3 th4 th5 th6 th7 th8 th9 ++ (ceW cI cZ th1 wheel1 wheel2 wheel3 wheel4 z151.2.1 ++ (ceW cI cZ th2 trial1 trial2 trial3 trial4 u_trial ++ (ceP cI cZ th3 pad1 u_pad ++ (ceS cI cZ th4 sights1 sights2 z151.2.2 ++ (ceT cI cZ th5 telling1 telling2 telling3 telling4 telling5 u_telling ++ (ceG cI cZ th6 seating1 seating2 seating3 seating4 seating5 seating6 u_seating ++ (ceU cI cZ th7 turns1 turns2 turns3 turns4 turns5 turns6 u_turns ++ (ceI cI cZ th8 firstImage1 firstImage2 firstImage3 firstImage4 firstImage5 firstImage6 firstImage7 firstImage8 u_firstImage ++ (ceI cI cZ th9 secondImage1 secondImage2 secondImage3 secondImage4 secondImage5 secondImage6 secondImage7 secondImage8 u_secondImage ++ (ceM cI cZ md0 md1 md2 md3 md4 md5 md6 md7 md8 md9 u_md))))))))))) H := hP
        have hD : va_D A (ceX th0 th1 th2 th3 th4 th5 th6 th7 th8 th9 ++ (ceW cI cZ th1 wheel1 wheel2 wheel3 wheel4 z151.2.1 ++ (ceW cI cZ th2 trial1 trial2 trial3 trial4 u_trial ++ (ceP cI cZ th3 pad1 u_pad ++ (ceS cI cZ th4 sights1 sights2 z151.2.2 ++ (ceT cI cZ th5 telling1 telling2 telling3 telling4 telling5 u_telling ++ (ceG cI cZ th6 seating1 seating2 seating3 seating4 seating5 seating6 u_seating ++ (ceU cI cZ th7 turns1 turns2 turns3 turns4 turns5 turns6 u_turns ++ (ceI cI cZ th8 firstImage1 firstImage2 firstImage3 firstImage4 firstImage5 firstImage6 firstImage7 firstImage8 u_firstImage ++ (ceI cI cZ th9 secondImage1 secondImage2 secondImage3 secondImage4 secondImage5 secondImage6 secondImage7 secondImage8 u_secondImage ++ (ceM cI cZ md0 md1 md2 md3 md4 md5 md6 md7 md8 md9 u_md))))))))))) := hD
        refine lv_aload_n hx hb dL_law_727 rfl (lv_at hl 2 rfl) ?_
        refine lv_aload_n hx hb dL_law_728 rfl (lv_at hl 0 rfl) ?_
        refine lv_iload_n hx hb dL_law_729 rfl (lv_at hl 3 rfl) ?_
        refine lv_iconst (v := 1) hx hb dL_law_730 (by decide) ?_
        refine lv_iadd hx hb dL_law_731 ?_
        by_cases c152 : (v3 + (1 : Int32)) < 0 ∨ L ≤ (v3 + (1 : Int32)).toNatClampNeg
        · have hf := (if_pos c152).symm.trans hf
          cases hf
        have hf := (if_neg c152).symm.trans hf
        refine va_sld hx hb hX hbl hbA hS (show vp_in (v3 + (1 : Int32)) L from c152) dL_law_732 ?_
        obtain ⟨z153, hz_z153, hf⟩ := o_bind hf
        refine k_calli (va_runV (As := [.int (xs (v3 + (1 : Int32)).toNatClampNeg)]) (rest := [.int z151.1]) ⟨hx, hb, hml, hown, hts⟩ (c_X11_restore l D cI cZ md0 md1 md2 md3 md4 md5 md6 md7 md8 md9 H.size u_md (xs (v3 + (1 : Int32)).toNatClampNeg) z153 hz_z153) (cwV 1 hts gL_law_X11_restore rfl rfl rfl ⟨rfl, hd_X11_restore⟩ ⟨Nat.le_of_ble_eq_true rfl, Nat.le_of_ble_eq_true rfl⟩) (k_preV hK hP hD hS hA hE [54, 55, 56, 57, 58, 59, 60, 61, 62, 63] (by decide) rfl (ci := 8) rfl rfl) rfl rfl hl.1 rfl (lv_room (Nat.le_of_ble_eq_true rfl)) dL_law_733 ⟨Nat.le_of_ble_eq_true rfl, Nat.le_of_ble_eq_true rfl⟩) hP hD hS hA [54, 55, 56, 57, 58, 59, 60, 61, 62, 63] [none, none, none, none, none, none, none, none, none, none, none, none, none, none, none, none, none, none, none, none, none, none, none, none, none, none, none, none, none, none, none, none, none, none, none, none, none, none, none, none, none, none, none, none, none, none, none, none, none, none, none, none, none, none, some 0, some 1, some 2, some 3, some 4, some 5, some 6, some 7, some 8, some 9] 10 rfl (by decide) (by decide) rfl rfl (fun H locs hP hD hS => ?_)
        have hP : va_P D vwCl (ceX th0 th1 th2 th3 th4 th5 th6 th7 th8 th9 ++ (ceW cI cZ th1 wheel1 wheel2 wheel3 wheel4 z151.2.1 ++ (ceW cI cZ th2 trial1 trial2 trial3 trial4 u_trial ++ (ceP cI cZ th3 pad1 u_pad ++ (ceS cI cZ th4 sights1 sights2 z151.2.2 ++ (ceT cI cZ th5 telling1 telling2 telling3 telling4 telling5 u_telling ++ (ceG cI cZ th6 seating1 seating2 seating3 seating4 seating5 seating6 u_seating ++ (ceU cI cZ th7 turns1 turns2 turns3 turns4 turns5 turns6 u_turns ++ (ceI cI cZ th8 firstImage1 firstImage2 firstImage3 firstImage4 firstImage5 firstImage6 firstImage7 firstImage8 u_firstImage ++ (ceI cI cZ th9 secondImage1 secondImage2 secondImage3 secondImage4 secondImage5 secondImage6 secondImage7 secondImage8 u_secondImage ++ (ceM cI cZ md0 md1 md2 md3 md4 md5 md6 md7 md8 md9 z153.2))))))))))) H := hP
        have hD : va_D A (ceX th0 th1 th2 th3 th4 th5 th6 th7 th8 th9 ++ (ceW cI cZ th1 wheel1 wheel2 wheel3 wheel4 z151.2.1 ++ (ceW cI cZ th2 trial1 trial2 trial3 trial4 u_trial ++ (ceP cI cZ th3 pad1 u_pad ++ (ceS cI cZ th4 sights1 sights2 z151.2.2 ++ (ceT cI cZ th5 telling1 telling2 telling3 telling4 telling5 u_telling ++ (ceG cI cZ th6 seating1 seating2 seating3 seating4 seating5 seating6 u_seating ++ (ceU cI cZ th7 turns1 turns2 turns3 turns4 turns5 turns6 u_turns ++ (ceI cI cZ th8 firstImage1 firstImage2 firstImage3 firstImage4 firstImage5 firstImage6 firstImage7 firstImage8 u_firstImage ++ (ceI cI cZ th9 secondImage1 secondImage2 secondImage3 secondImage4 secondImage5 secondImage6 secondImage7 secondImage8 u_secondImage ++ (ceM cI cZ md0 md1 md2 md3 md4 md5 md6 md7 md8 md9 z153.2))))))))))) := hD
        refine lv_icmp_eq (tgt := 764) hx hb dL_law_736 (by decide) (fun c154 => ?_) (fun c154 => ?_)
        · have hf := (if_pos c154).symm.trans hf
          refine lv_iinc (v := (v3 + (4 : Int32))) (lv' := [(3, .int (v3 + (4 : Int32))), (0, .ref b), (1, .ref th0), (2, .ref md0)]) hx hb dL_law_764 hl (k := 3) rfl rfl (by decide) rfl (fun ls hl => ?_)
          refine lv_goto (tgt := 18) hx hb dL_law_767 (by decide) ?_
          exact ih (v3 + (4 : Int32)) z151.2.1 u_trial u_pad z151.2.2 u_telling u_seating u_turns u_firstImage u_secondImage z153.2 _ _ ls (lv_sub hl [1, 2, 3, 0] rfl) hP hD hS hf
        · have hf := (if_neg c154).symm.trans hf
          refine lv_iconst (v := 0) hx hb dL_law_739 (by decide) ?_
          exact absurd (Option.some.inj hf) (by decide)
      have hf := (if_neg c149).symm.trans hf
      by_cases c155 : ((xs v3.toNatClampNeg) &&& (31 : Int32)) = 24
      · have hf := (if_pos c155).symm.trans hf
        refine lv_tableIn hx hb dL_law_32 (by rw [c155]; decide) (by rw [c155]; decide) (off := 709) (tgt := 741) (by rw [c155]; rfl) (by decide) ?_
        refine lv_aload_n hx hb dL_law_741 rfl (lv_at hl 1 rfl) ?_
        refine lv_aload_n hx hb dL_law_742 rfl (lv_at hl 0 rfl) ?_
        refine lv_iload_n hx hb dL_law_743 rfl (lv_at hl 3 rfl) ?_
        refine lv_iconst (v := 1) hx hb dL_law_744 (by decide) ?_
        refine lv_iadd hx hb dL_law_745 ?_
        by_cases c156 : (v3 + (1 : Int32)) < 0 ∨ L ≤ (v3 + (1 : Int32)).toNatClampNeg
        · have hf := (if_pos c156).symm.trans hf
          cases hf
        have hf := (if_neg c156).symm.trans hf
        refine va_sld hx hb hX hbl hbA hS (show vp_in (v3 + (1 : Int32)) L from c156) dL_law_746 ?_
        obtain ⟨z157, hz_z157, hf⟩ := o_bind hf
        refine k_calli (va_runV (As := [.int (xs (v3 + (1 : Int32)).toNatClampNeg)]) (rest := []) ⟨hx, hb, hml, hown, hts⟩ (c_X10_told l D cI cZ th0 th1 th2 th3 th4 th5 th6 th7 th8 th9 wheel1 wheel2 wheel3 wheel4 pad1 sights1 sights2 H.size u_wheel u_pad u_sights (xs (v3 + (1 : Int32)).toNatClampNeg) z157 hz_z157) (cwV 1 hts gL_law_X10_told rfl rfl rfl ⟨rfl, hd_X10_told⟩ ⟨Nat.le_of_ble_eq_true rfl, Nat.le_of_ble_eq_true rfl⟩) (k_preV hK hP hD hS hA hE [0, 1, 2, 3, 4, 5, 11, 12, 13, 14, 15] (by decide) rfl (ci := 7) rfl rfl) rfl rfl hl.1 rfl (lv_room (Nat.le_of_ble_eq_true rfl)) dL_law_747 ⟨Nat.le_of_ble_eq_true rfl, Nat.le_of_ble_eq_true rfl⟩) hP hD hS hA [0, 1, 2, 3, 4, 5, 11, 12, 13, 14, 15] [some 0, some 1, some 2, some 3, some 4, some 5, none, none, none, none, none, some 6, some 7, some 8, some 9, some 10, none, none, none, none, none, none, none, none, none, none, none, none, none, none, none, none, none, none, none, none, none, none, none, none, none, none, none, none, none, none, none, none, none, none, none, none, none, none, none, none, none, none, none, none, none, none, none, none] 11 rfl (by decide) (by decide) rfl rfl (fun H locs hP hD hS => ?_)
        have hP : va_P D vwCl (ceX th0 th1 th2 th3 th4 th5 th6 th7 th8 th9 ++ (ceW cI cZ th1 wheel1 wheel2 wheel3 wheel4 u_wheel ++ (ceW cI cZ th2 trial1 trial2 trial3 trial4 u_trial ++ (ceP cI cZ th3 pad1 u_pad ++ (ceS cI cZ th4 sights1 sights2 u_sights ++ (ceT cI cZ th5 telling1 telling2 telling3 telling4 telling5 u_telling ++ (ceG cI cZ th6 seating1 seating2 seating3 seating4 seating5 seating6 u_seating ++ (ceU cI cZ th7 turns1 turns2 turns3 turns4 turns5 turns6 u_turns ++ (ceI cI cZ th8 firstImage1 firstImage2 firstImage3 firstImage4 firstImage5 firstImage6 firstImage7 firstImage8 u_firstImage ++ (ceI cI cZ th9 secondImage1 secondImage2 secondImage3 secondImage4 secondImage5 secondImage6 secondImage7 secondImage8 u_secondImage ++ (ceM cI cZ md0 md1 md2 md3 md4 md5 md6 md7 md8 md9 u_md))))))))))) H := hP
        have hD : va_D A (ceX th0 th1 th2 th3 th4 th5 th6 th7 th8 th9 ++ (ceW cI cZ th1 wheel1 wheel2 wheel3 wheel4 u_wheel ++ (ceW cI cZ th2 trial1 trial2 trial3 trial4 u_trial ++ (ceP cI cZ th3 pad1 u_pad ++ (ceS cI cZ th4 sights1 sights2 u_sights ++ (ceT cI cZ th5 telling1 telling2 telling3 telling4 telling5 u_telling ++ (ceG cI cZ th6 seating1 seating2 seating3 seating4 seating5 seating6 u_seating ++ (ceU cI cZ th7 turns1 turns2 turns3 turns4 turns5 turns6 u_turns ++ (ceI cI cZ th8 firstImage1 firstImage2 firstImage3 firstImage4 firstImage5 firstImage6 firstImage7 firstImage8 u_firstImage ++ (ceI cI cZ th9 secondImage1 secondImage2 secondImage3 secondImage4 secondImage5 secondImage6 secondImage7 secondImage8 u_secondImage ++ (ceM cI cZ md0 md1 md2 md3 md4 md5 md6 md7 md8 md9 u_md))))))))))) := hD
        refine lv_aload_n hx hb dL_law_750 rfl (lv_at hl 2 rfl) ?_
        refine lv_aload_n hx hb dL_law_751 rfl (lv_at hl 0 rfl) ?_
        refine lv_iload_n hx hb dL_law_752 rfl (lv_at hl 3 rfl) ?_
        refine lv_iconst (v := 1) hx hb dL_law_753 (by decide) ?_
        refine lv_iadd hx hb dL_law_754 ?_
        by_cases c158 : (v3 + (1 : Int32)) < 0 ∨ L ≤ (v3 + (1 : Int32)).toNatClampNeg
        · have hf := (if_pos c158).symm.trans hf
          cases hf
        have hf := (if_neg c158).symm.trans hf
        refine va_sld hx hb hX hbl hbA hS (show vp_in (v3 + (1 : Int32)) L from c158) dL_law_755 ?_
        obtain ⟨z159, hz_z159, hf⟩ := o_bind hf
        refine k_calli (va_runV (As := [.int (xs (v3 + (1 : Int32)).toNatClampNeg)]) (rest := [.int z157.1]) ⟨hx, hb, hml, hown, hts⟩ (c_X11_told l D cI cZ md0 md1 md2 md3 md4 md5 md6 md7 md8 md9 H.size u_md (xs (v3 + (1 : Int32)).toNatClampNeg) z159 hz_z159) (cwV 1 hts gL_law_X11_told rfl rfl rfl ⟨rfl, hd_X11_told⟩ ⟨Nat.le_of_ble_eq_true rfl, Nat.le_of_ble_eq_true rfl⟩) (k_preV hK hP hD hS hA hE [54, 55, 56, 57, 58, 59, 60, 61, 62, 63] (by decide) rfl (ci := 8) rfl rfl) rfl rfl hl.1 rfl (lv_room (Nat.le_of_ble_eq_true rfl)) dL_law_756 ⟨Nat.le_of_ble_eq_true rfl, Nat.le_of_ble_eq_true rfl⟩) hP hD hS hA [54, 55, 56, 57, 58, 59, 60, 61, 62, 63] [none, none, none, none, none, none, none, none, none, none, none, none, none, none, none, none, none, none, none, none, none, none, none, none, none, none, none, none, none, none, none, none, none, none, none, none, none, none, none, none, none, none, none, none, none, none, none, none, none, none, none, none, none, none, some 0, some 1, some 2, some 3, some 4, some 5, some 6, some 7, some 8, some 9] 10 rfl (by decide) (by decide) rfl rfl (fun H locs hP hD hS => ?_)
        have hP : va_P D vwCl (ceX th0 th1 th2 th3 th4 th5 th6 th7 th8 th9 ++ (ceW cI cZ th1 wheel1 wheel2 wheel3 wheel4 u_wheel ++ (ceW cI cZ th2 trial1 trial2 trial3 trial4 u_trial ++ (ceP cI cZ th3 pad1 u_pad ++ (ceS cI cZ th4 sights1 sights2 u_sights ++ (ceT cI cZ th5 telling1 telling2 telling3 telling4 telling5 u_telling ++ (ceG cI cZ th6 seating1 seating2 seating3 seating4 seating5 seating6 u_seating ++ (ceU cI cZ th7 turns1 turns2 turns3 turns4 turns5 turns6 u_turns ++ (ceI cI cZ th8 firstImage1 firstImage2 firstImage3 firstImage4 firstImage5 firstImage6 firstImage7 firstImage8 u_firstImage ++ (ceI cI cZ th9 secondImage1 secondImage2 secondImage3 secondImage4 secondImage5 secondImage6 secondImage7 secondImage8 u_secondImage ++ (ceM cI cZ md0 md1 md2 md3 md4 md5 md6 md7 md8 md9 z159.2))))))))))) H := hP
        have hD : va_D A (ceX th0 th1 th2 th3 th4 th5 th6 th7 th8 th9 ++ (ceW cI cZ th1 wheel1 wheel2 wheel3 wheel4 u_wheel ++ (ceW cI cZ th2 trial1 trial2 trial3 trial4 u_trial ++ (ceP cI cZ th3 pad1 u_pad ++ (ceS cI cZ th4 sights1 sights2 u_sights ++ (ceT cI cZ th5 telling1 telling2 telling3 telling4 telling5 u_telling ++ (ceG cI cZ th6 seating1 seating2 seating3 seating4 seating5 seating6 u_seating ++ (ceU cI cZ th7 turns1 turns2 turns3 turns4 turns5 turns6 u_turns ++ (ceI cI cZ th8 firstImage1 firstImage2 firstImage3 firstImage4 firstImage5 firstImage6 firstImage7 firstImage8 u_firstImage ++ (ceI cI cZ th9 secondImage1 secondImage2 secondImage3 secondImage4 secondImage5 secondImage6 secondImage7 secondImage8 u_secondImage ++ (ceM cI cZ md0 md1 md2 md3 md4 md5 md6 md7 md8 md9 z159.2))))))))))) := hD
        refine lv_icmp_eq (tgt := 764) hx hb dL_law_759 (by decide) (fun c160 => ?_) (fun c160 => ?_)
        · have hf := (if_pos c160).symm.trans hf
          refine lv_iinc (v := (v3 + (4 : Int32))) (lv' := [(3, .int (v3 + (4 : Int32))), (0, .ref b), (1, .ref th0), (2, .ref md0)]) hx hb dL_law_764 hl (k := 3) rfl rfl (by decide) rfl (fun ls hl => ?_)
          refine lv_goto (tgt := 18) hx hb dL_law_767 (by decide) ?_
          exact ih (v3 + (4 : Int32)) u_wheel u_trial u_pad u_sights u_telling u_seating u_turns u_firstImage u_secondImage z159.2 _ _ ls (lv_sub hl [1, 2, 3, 0] rfl) hP hD hS hf
        · have hf := (if_neg c160).symm.trans hf
          refine lv_iconst (v := 0) hx hb dL_law_762 (by decide) ?_
          exact absurd (Option.some.inj hf) (by decide)
      have hf := (if_neg c155).symm.trans hf
      refine lv_tableOut hx hb dL_law_32 (tgt := 764) (by have q0 := lv_neT (a := 0) c3 rfl; have q1 := lv_neT (a := 1) c11 rfl; have q2 := lv_neT (a := 2) c17 rfl; have q3 := lv_neT (a := 3) c23 rfl; have q4 := lv_neT (a := 4) c27 rfl; have q5 := lv_neT (a := 5) c31 rfl; have q6 := lv_neT (a := 6) c37 rfl; have q7 := lv_neT (a := 7) c41 rfl; have q8 := lv_neT (a := 8) c45 rfl; have q9 := lv_neT (a := 9) c53 rfl; have q10 := lv_neT (a := 10) c57 rfl; have q11 := lv_neT (a := 11) c63 rfl; have q12 := lv_neT (a := 12) c69 rfl; have q13 := lv_neT (a := 13) c77 rfl; have q14 := lv_neT (a := 14) c83 rfl; have q15 := lv_neT (a := 15) c87 rfl; have q16 := lv_neT (a := 16) c95 rfl; have q17 := lv_neT (a := 17) c105 rfl; have q18 := lv_neT (a := 18) c113 rfl; have q19 := lv_neT (a := 19) c117 rfl; have q20 := lv_neT (a := 20) c123 rfl; have q21 := lv_neT (a := 21) c133 rfl; have q22 := lv_neT (a := 22) c143 rfl; have q23 := lv_neT (a := 23) c149 rfl; have q24 := lv_neT (a := 24) c155 rfl; omega) (by decide) ?_
      refine lv_iinc (v := (v3 + (4 : Int32))) (lv' := [(3, .int (v3 + (4 : Int32))), (0, .ref b), (1, .ref th0), (2, .ref md0)]) hx hb dL_law_764 hl (k := 3) rfl rfl (by decide) rfl (fun ls hl => ?_)
      refine lv_goto (tgt := 18) hx hb dL_law_767 (by decide) ?_
      exact ih (v3 + (4 : Int32)) u_wheel u_trial u_pad u_sights u_telling u_seating u_turns u_firstImage u_secondImage u_md _ _ ls (lv_sub hl [1, 2, 3, 0] rfl) hP hD hS hf
