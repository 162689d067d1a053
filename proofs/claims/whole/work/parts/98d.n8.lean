/-! down: the reference's codes -/
def dmv (d : Nat) : Nat := if d = 17 then 9 else d / 2
def cm (a : aW) (mv : Nat) : Nat := if mv < 8 then 2 * mv + tk a else mv + 8
def vc (a : aW) (d : Nat) : Bool := cb a (dmv d) && decide (cm a (dmv d) = d)
theorem tk_le (a : aW) : tk a ≤ 1 := by
  unfold tk
  by_cases c : a_rd a (a_ft a) = 8
  · rw [if_pos c]; omega
  · rw [if_neg c]; omega
theorem cm_lt (a : aW) {mv : Nat} (h : mv < 10) : cm a mv < 18 := by
  have := tk_le a
  unfold cm
  by_cases c : mv < 8
  · rw [if_pos c]; omega
  · rw [if_neg c]; omega
theorem dmv_cm (a : aW) {mv : Nat} (h : mv < 10) : dmv (cm a mv) = mv := by
  have := tk_le a
  unfold dmv cm
  by_cases c : mv < 8
  · rw [if_pos c, if_neg (by omega)]; omega
  · rw [if_neg c]
    by_cases c2 : mv = 9
    · rw [c2]; rfl
    · rw [if_neg (by omega)]; omega
theorem dmv_lt {d : Nat} (h : d < 18) : dmv d < 10 := by
  unfold dmv
  by_cases c : d = 17
  · rw [if_pos c]; omega
  · rw [if_neg c]; omega
theorem cm_mono (a : aW) {i j : Nat} (h : i < j) (hj : j < 10) : cm a i < cm a j := by
  have := tk_le a
  unfold cm
  by_cases c : i < 8
  · rw [if_pos c]
    by_cases c2 : j < 8
    · rw [if_pos c2]; omega
    · rw [if_neg c2]; omega
  · rw [if_neg c, if_neg (by omega)]; omega
theorem x_m100 {m : sM} {b : aW} (h : relM m b) (hb : okA b) : ∃ m', f_X11_move_J100 m = some (1, m') ∧ pM m m' ∧ relM m' (a_foot b (aLet b).2) := by
  obtain ⟨m', h1, h2, h3, -⟩ := x_letGo h hb
  exact ⟨m', by rw [f_X11_move_J100, h1, Option.bind_some], h2, h3⟩
theorem x_move {m : sM} {a : aW} (h : relM m a) (ha : okA a) {d : Nat} (hd : d < 18) : ∃ m', pM m m' ∧ ((vc a d = true ∧ f_X11_move m (nI d) = some (1, m') ∧ relM m' (mk a (dmv d))) ∨ (vc a d = false ∧ f_X11_move m (nI d) = some (0, m'))) := by
  have h8 := ha.1
  have hft : M_foot m = nI (a_ft a) := h.2.2.2.1
  have hr8 := ha.2.2.2.2.1 _ h8
  have hg : ¬ (nI (a_ft a) < 0 ∨ 8 ≤ (nI (a_ft a)).toNatClampNeg) := nI_ok ha.1 (by decide)
  have hg2 : ¬ (nI (a_ft a) < 0 ∨ 8 ≤ a_ft a) := fun q => q.elim (nI_pos (by omega)) (by omega)
  have hcl : (nI (a_ft a)).toNatClampNeg = a_ft a := nI_cl (by omega)
  have hnow : M_now m (a_ft a) = enc (a_rd a (a_ft a)) := h.2.1 _ h8
  rw [f_X11_move, show nI d - nI d / (2 : Int32) * (2 : Int32) = nI (d % 2) from pk_rem (d := 2) (by omega) (by decide) (by decide), show nI d / (2 : Int32) = nI (d / 2) from pk_div (d := 2) (by omega) (by decide) (by decide)]
  by_cases co : d % 2 = 1
  · rw [if_pos (show nI (d % 2) = (1 : Int32) by rw [co]; rfl), f_X11_move_J16, if_neg (show ¬ (1 : Int32) = 0 by decide), hft, if_neg hg, hcl, hnow]
    by_cases c1 : a_rd a (a_ft a) = 8
    · rw [if_neg (fun q => (enc_ge hr8).mp q c1)]
      refine ⟨m, pM.rf m, Or.inr ⟨?_, rfl⟩⟩
      unfold vc
      by_cases c17 : d = 17
      · have e9 : dmv d = 9 := by unfold dmv; rw [if_pos c17]
        have : cb a 9 = false := by
          unfold cb
          rw [if_neg (by decide), if_pos rfl]
          exact decide_eq_false (fun q => q c1)
        rw [e9, this]; rfl
      · have e9 : dmv d = d / 2 := by unfold dmv; rw [if_neg c17]
        have e10 : ¬ cm a (dmv d) = d := by
          rw [e9]; unfold cm tk
          rw [if_pos (by omega), if_pos c1]; omega
        rw [decide_eq_false e10, Bool.and_false]
    · rw [if_pos ((enc_ge hr8).mpr c1), f_X11_move_J35, if_neg (show ¬ (1 : Int32) = 0 by decide), hft, f_X11_move_J61, if_neg hg, hcl]
      have hm1 : relM (mNow m (a_ft a) (-6)) (a_seat a (a_ft a) 8) := by
        rw [show (-6 : Int32) = enc 8 from rfl]; exact mNow_rel h _ 8
      have ok1 := okA_un ha (a_ft a)
      by_cases c17 : d = 17
      · have e9 : dmv d = 9 := by unfold dmv; rw [if_pos c17]
        have es : mkS a 9 = a_seat a (a_ft a) 8 := rfl
        obtain ⟨m', k1, k2, k3⟩ := x_m100 hm1 ok1
        rw [if_pos (show (8 : Int32) ≤ nI (d / 2) by rw [c17]; decide)]
        refine ⟨m', (mNow_p m _ _).tr k2, Or.inl ⟨?_, k1, ?_⟩⟩
        · unfold vc
          rw [e9]
          have : cb a 9 = true := by
            unfold cb
            rw [if_neg (by decide), if_pos rfl]
            exact decide_eq_true c1
          rw [this, c17]; rfl
        · rw [e9]; exact k3
      · have hp : d / 2 < 8 := by omega
        have e9 : dmv d = d / 2 := by unfold dmv; rw [if_neg c17]
        have k1 := x_carOf hm1 ok1 hp
        have k1 : f_X11_carOf (M_weight m, M_sits m, M_stones m, M_at m, M_drag m, M_sights m, M_sight m, M_signs m, M_pad m, M_foot m, M_turned m, M_bothWays m, upd (M_now m) (a_ft a) (-6), M_heap m, M_reason m, M_image m, M_isKept m) (nI (d / 2)) = some (enc (cr (un (a_rd a) (a_ft a) 8) (d / 2)), ()) := k1
        have hcr := cr_le (un (a_rd a) (a_ft a) 8) (d / 2)
        have hcu := cr_un ha.2.2.2.2 ha.1 hp
        have hci := cr_iff ha.2.2.2.2 hp ha.1
        have ecm : cm a (d / 2) = d := by
          unfold cm tk
          rw [if_pos hp, if_neg c1]; omega
        have ecb : cb a (d / 2) = decide (cr (a_rd a) (d / 2) = a_ft a ∨ cr (a_rd a) (d / 2) = 8) := by
          unfold cb
          rw [if_neg (by omega), if_neg (by omega)]
        have ecu : cr (un (a_rd a) (a_ft a) 8) (d / 2) = 8 ↔ (cr (a_rd a) (d / 2) = a_ft a ∨ cr (a_rd a) (d / 2) = 8) := by
          rw [hcu]
          by_cases q : d / 2 = a_rd a (a_ft a)
          · rw [if_pos q]; exact ⟨fun _ => Or.inl (hci.mpr q.symm), fun _ => rfl⟩
          · rw [if_neg q]
            exact ⟨Or.inr, fun z => z.elim (fun y => absurd (hci.mp y).symm q) id⟩
        rw [hft] at k1
        rw [if_neg (show ¬ (8 : Int32) ≤ nI (d / 2) from nI_ge (b := 8) hp (by decide)), hft, if_neg hg, hcl, show upd (M_now m) (a_ft a) (-6) (a_ft a) = -6 from pk_us, if_neg (show ¬ (0 : Int32) ≤ -6 by decide), k1, Option.bind_some]
        show ∃ m', pM m m' ∧ ((_ ∧ (if enc (cr (un (a_rd a) (a_ft a) 8) (d / 2)) < 0 then _ else _) = _ ∧ _) ∨ (_ ∧ (if enc (cr (un (a_rd a) (a_ft a) 8) (d / 2)) < 0 then _ else _) = _))
        by_cases c2 : cr (un (a_rd a) (a_ft a) 8) (d / 2) = 8
        · rw [if_pos ((enc_neg hcr).mpr c2), if_neg hg2]
          have hm2 : relM (mNow (mNow m (a_ft a) (-6)) (a_ft a) (nI (d / 2))) (mkS a (d / 2)) := by
            have : mkS a (d / 2) = a_seat (a_seat a (a_ft a) 8) (a_ft a) (d / 2) := by
              unfold mkS
              rw [if_pos hp]
              show (a_wt a, un (a_rd a) (a_ft a) (d / 2), a_ld a, a_ft a, a_dg a) = (a_wt a, un (un (a_rd a) (a_ft a) 8) (a_ft a) (d / 2), a_ld a, a_ft a, a_dg a)
              rw [un_un]
            rw [this, ← enc_lt hp]
            exact mNow_rel hm1 _ _
          have hcbt : cb a (d / 2) = true := ecb.trans (decide_eq_true (ecu.mp c2))
          obtain ⟨m', k2, k3, k4⟩ := x_m100 hm2 (mkS_ok ha hcbt (by omega))
          refine ⟨m', ((mNow_p m _ _).tr (mNow_p _ _ _)).tr k3, Or.inl ⟨?_, by rw [← k2, ← hft]; rfl, by rw [e9]; exact k4⟩⟩
          unfold vc
          rw [e9, hcbt, ecm, decide_eq_true rfl]; rfl
        · rw [if_neg (fun q => c2 ((enc_neg hcr).mp q))]
          refine ⟨_, mNow_p m (a_ft a) (-6), Or.inr ⟨?_, by rw [← hft]; rfl⟩⟩
          unfold vc
          rw [e9, ecb, decide_eq_false (fun q => c2 (ecu.mpr q))]; rfl
  · rw [if_neg (show ¬ nI (d % 2) = (1 : Int32) from fun q => co ((nI_eq (b := 1) (by omega) (by omega)).mp q)), f_X11_move_J16, if_pos rfl, f_X11_move_J35, if_pos rfl, hft, if_neg hg, f_X11_move_J61, if_neg hg, hcl]
    have e9 : dmv d = d / 2 := by unfold dmv; rw [if_neg (by omega)]
    have hm1 : relM (mNow m (a_ft a) (M_now m (a_ft a))) a := now_same h h8
    by_cases c16 : d = 16
    · have es : mk a 8 = a_foot a (aLet a).2 := by unfold mk; rw [mkS_8]
      obtain ⟨m', k1, k2, k3⟩ := x_m100 hm1 ha
      rw [if_pos (show (8 : Int32) ≤ nI (d / 2) by rw [c16]; decide)]
      refine ⟨m', (mNow_p m _ _).tr k2, Or.inl ⟨?_, by rw [← k1]; rfl, ?_⟩⟩
      · unfold vc
        rw [e9, c16]; rfl
      · rw [e9, c16, es]; exact k3
    · have hp : d / 2 < 8 := by omega
      rw [if_neg (show ¬ (8 : Int32) ≤ nI (d / 2) from nI_ge (b := 8) hp (by decide)), hft, if_neg hg, hcl, show upd (M_now m) (a_ft a) (M_now m (a_ft a)) (a_ft a) = enc (a_rd a (a_ft a)) from pk_us.trans hnow]
      by_cases c1 : a_rd a (a_ft a) = 8
      · have k1 := x_carOf hm1 ha hp
        have k1 : f_X11_carOf (M_weight m, M_sits m, M_stones m, M_at m, M_drag m, M_sights m, M_sight m, M_signs m, M_pad m, M_foot m, M_turned m, M_bothWays m, upd (M_now m) (a_ft a) (M_now m (a_ft a)), M_heap m, M_reason m, M_image m, M_isKept m) (nI (d / 2)) = some (enc (cr (a_rd a) (d / 2)), ()) := k1
        have hcr := cr_le (a_rd a) (d / 2)
        have hci := cr_iff ha.2.2.2.2 hp ha.1
        have ecm : cm a (d / 2) = d := by
          unfold cm tk
          rw [if_pos hp, if_pos c1]; omega
        have ecb : cb a (d / 2) = decide (cr (a_rd a) (d / 2) = a_ft a ∨ cr (a_rd a) (d / 2) = 8) := by
          unfold cb
          rw [if_neg (by omega), if_neg (by omega)]
        rw [hft] at k1
        rw [if_neg (fun q => (enc_ge hr8).mp q c1), k1, Option.bind_some]
        show ∃ m', pM m m' ∧ ((_ ∧ (if enc (cr (a_rd a) (d / 2)) < 0 then _ else _) = _ ∧ _) ∨ (_ ∧ (if enc (cr (a_rd a) (d / 2)) < 0 then _ else _) = _))
        by_cases c2 : cr (a_rd a) (d / 2) = 8
        · rw [if_pos ((enc_neg hcr).mpr c2), if_neg hg2]
          have hm2 : relM (mNow (mNow m (a_ft a) (M_now m (a_ft a))) (a_ft a) (nI (d / 2))) (mkS a (d / 2)) := by
            have : mkS a (d / 2) = a_seat a (a_ft a) (d / 2) := by
              unfold mkS
              rw [if_pos hp]
            rw [this, ← enc_lt hp]
            exact mNow_rel hm1 _ _
          have hcbt : cb a (d / 2) = true := ecb.trans (decide_eq_true (Or.inr c2))
          obtain ⟨m', k2, k3, k4⟩ := x_m100 hm2 (mkS_ok ha hcbt (by omega))
          refine ⟨m', ((mNow_p m _ _).tr (mNow_p _ _ _)).tr k3, Or.inl ⟨?_, by rw [← k2, ← hft]; rfl, by rw [e9]; exact k4⟩⟩
          unfold vc
          rw [e9, hcbt, ecm, decide_eq_true rfl]; rfl
        · rw [if_neg (fun q => c2 ((enc_neg hcr).mp q))]
          refine ⟨_, mNow_p m (a_ft a) (M_now m (a_ft a)), Or.inr ⟨?_, by rw [← hft]; rfl⟩⟩
          unfold vc
          rw [e9, ecb, decide_eq_false (fun q => q.elim (fun y => by have := hci.mp y; omega) c2)]; rfl
      · rw [if_pos ((enc_ge hr8).mpr c1)]
        refine ⟨_, mNow_p m (a_ft a) (M_now m (a_ft a)), Or.inr ⟨?_, by rw [← hft]; rfl⟩⟩
        have e10 : ¬ cm a (dmv d) = d := by
          rw [e9]; unfold cm tk
          rw [if_pos hp, if_neg c1]; omega
        unfold vc
        rw [decide_eq_false e10, Bool.and_false]
/-- whether the moves of a code bring the person down -/
def gB (p : Nat) : Nat → aW → Nat → Bool
  | 0, a, _ => decide (cr (a_rd a) p = a_ft a)
  | r + 1, a, c => vc a (c / 18 ^ r) && gB p r (mk a (dmv (c / 18 ^ r))) (c % 18 ^ r)
theorem vc_cb {a : aW} {d : Nat} (h : vc a d = true) : cb a (dmv d) = true ∧ cm a (dmv d) = d := by
  unfold vc at h
  rw [Bool.and_eq_true] at h
  exact ⟨h.1, of_decide_eq_true h.2⟩
theorem vc_cm {a : aW} {mv : Nat} (h : mv < 10) (hc : cb a mv = true) : vc a (cm a mv) = true := by
  unfold vc
  rw [dmv_cm a h, hc, decide_eq_true rfl]; rfl
theorem code_d {r d s : Nat} (h : s < 18 ^ r) : (d * 18 ^ r + s) / 18 ^ r = d ∧ (d * 18 ^ r + s) % 18 ^ r = s := by
  have hp : 0 < 18 ^ r := Nat.pow_pos (by decide)
  constructor
  · rw [Nat.add_comm, Nat.add_mul_div_right _ _ hp, Nat.div_eq_of_lt h, Nat.zero_add]
  · rw [Nat.add_comm, Nat.add_mul_mod_self_right, Nat.mod_eq_of_lt h]
theorem code_lt {r d s : Nat} (h : s < 18 ^ r) (hd : d < 18) : d * 18 ^ r + s < 18 ^ (r + 1) := by
  have : (d + 1) * 18 ^ r ≤ 18 * 18 ^ r := Nat.mul_le_mul_right _ hd
  rw [Nat.pow_succ, Nat.mul_comm (18 ^ r) 18]
  rw [Nat.add_mul, Nat.one_mul] at this
  omega
theorem code_hd {r c : Nat} (h : c < 18 ^ (r + 1)) : c / 18 ^ r < 18 := by
  rw [Nat.pow_succ] at h
  exact Nat.div_lt_of_lt_mul h
theorem eB_iff (p : Nat) : ∀ (k : Nat) (a : aW), (∃ c, c < 18 ^ k ∧ gB p k a c = true) ↔ eB p k a = true
  | 0, a => ⟨fun ⟨_, _, h⟩ => h, fun h => ⟨0, by decide, h⟩⟩
  | k + 1, a => by
    rw [eB_s, decide_eq_true_iff]
    constructor
    · rintro ⟨c, h1, h2⟩
      rw [gB, Bool.and_eq_true] at h2
      have hd := code_hd h1
      obtain ⟨e1, e2⟩ := vc_cb h2.1
      have hq : qB p k a (dmv (c / 18 ^ k)) = true := by
        unfold qB
        rw [e1, (eB_iff p k _).mp ⟨c % 18 ^ k, Nat.mod_lt _ (Nat.pow_pos (by decide)), h2.2⟩]; rfl
      have := lst_le (n := 10) (Nat.zero_le _) (by have := dmv_lt hd; omega) hq
      have := dmv_lt hd
      unfold sm
      omega
    · intro h
      have hq := lst_yes (qB p k a) 10 0 (by unfold sm at h; omega)
      change qB p k a (sm p k a) = true at hq
      unfold qB at hq
      rw [Bool.and_eq_true] at hq
      obtain ⟨s, h1, h2⟩ := (eB_iff p k _).mpr hq.2
      refine ⟨cm a (sm p k a) * 18 ^ k + s, code_lt h1 (cm_lt a h), ?_⟩
      rw [gB, (code_d h1).1, (code_d h1).2, vc_cm h hq.1, dmv_cm a h, h2]; rfl
theorem first_code (p k : Nat) (a : aW) : (lst (gB p (k + 1) a) (18 ^ (k + 1)) 0 < 18 ^ (k + 1) ↔ sm p k a < 10) ∧ (sm p k a < 10 → lst (gB p (k + 1) a) (18 ^ (k + 1)) 0 / 18 ^ k = cm a (sm p k a)) := by
  have hiff : lst (gB p (k + 1) a) (18 ^ (k + 1)) 0 < 18 ^ (k + 1) ↔ sm p k a < 10 := by
    have h1 := eB_iff p (k + 1) a
    rw [eB_s, decide_eq_true_iff] at h1
    rw [← h1]
    constructor
    · intro h
      exact ⟨_, h, lst_yes (gB p (k + 1) a) (18 ^ (k + 1)) 0 (by omega)⟩
    · rintro ⟨c, h2, h3⟩
      exact Nat.lt_of_le_of_lt (lst_le (Nat.zero_le _) (by omega) h3) h2
  refine ⟨hiff, fun h => ?_⟩
  have hlt := hiff.mpr h
  have hy := lst_yes (gB p (k + 1) a) (18 ^ (k + 1)) 0 (by omega)
  generalize hc : lst (gB p (k + 1) a) (18 ^ (k + 1)) 0 = c at *
  rw [gB, Bool.and_eq_true] at hy
  obtain ⟨e1, e2⟩ := vc_cb hy.1
  have hd := code_hd hlt
  have hdm := dmv_lt hd
  have hq : qB p k a (dmv (c / 18 ^ k)) = true := by
    unfold qB
    rw [e1, (eB_iff p k _).mp ⟨c % 18 ^ k, Nat.mod_lt _ (Nat.pow_pos (by decide)), hy.2⟩]; rfl
  have hle : sm p k a ≤ dmv (c / 18 ^ k) := lst_le (n := 10) (Nat.zero_le _) (by omega) hq
  rcases Nat.lt_or_ge (sm p k a) (dmv (c / 18 ^ k)) with hlt2 | hge
  · exfalso
    have hq2 := lst_yes (qB p k a) 10 0 (by unfold sm at h; omega)
    change qB p k a (sm p k a) = true at hq2
    unfold qB at hq2
    rw [Bool.and_eq_true] at hq2
    obtain ⟨s, h1, h2⟩ := (eB_iff p k _).mpr hq2.2
    have h3 : gB p (k + 1) a (cm a (sm p k a) * 18 ^ k + s) = true := by
      rw [gB, (code_d h1).1, (code_d h1).2, vc_cm h hq2.1, dmv_cm a h, h2]; rfl
    have h4 := lst_le (Q := gB p (k + 1) a) (n := 18 ^ (k + 1)) (i := 0) (Nat.zero_le _) (by have := code_lt h1 (cm_lt a h); omega) h3
    rw [hc] at h4
    have h5 := cm_mono a hlt2 hdm
    rw [e2] at h5
    have h6 : c / 18 ^ k ≤ (cm a (sm p k a) * 18 ^ k + s) / 18 ^ k := Nat.div_le_div_right h4
    rw [(code_d h1).1] at h6
    omega
  · have : sm p k a = dmv (c / 18 ^ k) := by omega
    rw [this, e2]
