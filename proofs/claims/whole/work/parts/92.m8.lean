/-! an event, by the reference -/
def gBody (K : gK) (v1 v2 v3 v4 w : Int32) (u_th : sM) : Option (Int32 × sM) := (if w = (63 : Int32) then f_X11_goText_J74 K v1 v2 v3 v4 w u_th else (f_X11_in w (65 : Int32) (72 : Int32)).bind fun z21 => (if z21.1 = 0 then (f_X11_in w (97 : Int32) (104 : Int32)).bind fun z23 => (if z23.1 = 0 then (if w = (60 : Int32) then f_X11_goText_J298 K v1 v2 v3 v4 w u_th else (if w = (62 : Int32) then f_X11_goText_J298 K v1 v2 v3 v4 w u_th else (if w = (94 : Int32) then (f_X11_letGo u_th).bind fun z40 => f_X11_goText_J447 K v1 v2 v3 v4 z40 else (if w = (48 : Int32) then (if v4 = v2 then (if (M_foot u_th) < 0 ∨ 8 ≤ (M_foot u_th).toNatClampNeg then none else f_X11_goText_J374 K v1 v2 v3 v4 (M_foot u_th) ((M_heap u_th) (M_foot u_th).toNatClampNeg) u_th) else f_X11_goText_J374 K v1 v2 v3 v4 (M_foot u_th) (0 : Int32) u_th) else (if v4 = v2 then f_X11_goText_J410 K v1 v2 v3 v4 w (0 : Int32) u_th else (if (M_foot u_th) < 0 ∨ 8 ≤ (M_foot u_th).toNatClampNeg then none else (if ((((M_heap u_th) (M_foot u_th).toNatClampNeg) + w) - (48 : Int32)) ≤ (99 : Int32) then f_X11_goText_J410 K v1 v2 v3 v4 w (0 : Int32) u_th else f_X11_goText_J410 K v1 v2 v3 v4 w (4 : Int32) u_th))))))) else (if v4 = v2 then f_X11_goText_J242 K v1 v2 v3 v4 (0 : Int32) u_th else (if (M_foot u_th) < 0 ∨ 8 ≤ (M_foot u_th).toNatClampNeg then none else (if ((M_now u_th) (M_foot u_th).toNatClampNeg) = (w - (97 : Int32)) then f_X11_goText_J242 K v1 v2 v3 v4 (0 : Int32) u_th else f_X11_goText_J242 K v1 v2 v3 v4 (3 : Int32) u_th)))) else f_X11_goText_J74 K v1 v2 v3 v4 w u_th))
theorem g_step (n : Nat) (v1 v2 v3 v4 : Int32) (u : sM) : f_X11_goText_L37 (n + 1) v1 v2 v3 v4 u = if M_signs u ≤ v4 then some (-6, u) else if v4 < 0 ∨ 60 ≤ v4.toNatClampNeg then none else gBody (f_X11_goText_L37 n) v1 v2 v3 v4 (M_pad u v4.toNatClampNeg) u := by
  rw [f_X11_goText_L37]
  rfl
theorem p_nr (m : sM) (k : Nat) (x r : Int32) : pM m (mNow (mRea m r) k x) := ⟨rfl, rfl, rfl, rfl, rfl, rfl, rfl, rfl, rfl, rfl, rfl⟩
theorem p_hr (m : sM) (k : Nat) (x r : Int32) : pM m (mHeap (mRea m r) k x) := ⟨rfl, rfl, rfl, rfl, rfl, rfl, rfl, rfl, rfl, rfl, rfl⟩
theorem g_242b {K : gK} {v1 v3 : Int32} {i : Nat} {m : sM} {a : aW} (h : relM m a) (ha : okA a) (hi : i < 60) : gRes K v1 (eb i) v3 i m a 0 (M_turned m) (f_X11_goText_J242 K v1 (eb i) v3 (nI i) (0 : Int32) m) := by
  have hft : M_foot m = nI (a_ft a) := h.2.2.2.1
  rw [f_X11_goText_J242, if_pos rfl, if_pos ((eb_iff hi).mpr rfl)]
  have e := g_271 (K := K) (v1 := v1) (v2 := eb i) (v3 := v3) (v4 := nI i) (y := M_foot m) (m := mRea m 0) ha.1 hft hft
  have h2 := g_end (K := K) (v1 := v1) (v2 := eb i) (v3 := v3) (i := i) (m0 := m) (a' := a) (r := 0) (m := mNow (mRea m 0) (a_ft a) (M_now (mRea m 0) (a_ft a))) (by omega) (p_nr _ _ _ _) rfl (fun _ => now_same (m := mRea m 0) h ha.1)
  rw [← e] at h2
  exact h2
theorem g_242 {K : gK} {v1 v3 : Int32} {i but r : Nat} {m : sM} {a : aW} (h : relM m a) (ha : okA a) (hi : i < 60) (e : i ≠ but) (hr : r ≤ 3) : gRes K v1 (eb but) v3 i m (a_seat a (a_ft a) 8) r (M_turned m) (f_X11_goText_J242 K v1 (eb but) v3 (nI i) (nI r) m) := by
  have hft : M_foot m = nI (a_ft a) := h.2.2.2.1
  rw [f_X11_goText_J242]
  by_cases er : r = 0
  · subst er
    rw [if_pos (show nI 0 = (0 : Int32) from rfl), if_neg (fun q => e ((eb_iff hi).mp q))]
    have e2 := g_280 (K := K) (v1 := v1) (v2 := eb but) (v3 := v3) (v4 := nI i) (x := -6) (y := M_foot m) (m := mRea m (nI 0)) ha.1 hft
    have h2 := g_end (K := K) (v1 := v1) (v2 := eb but) (v3 := v3) (i := i) (m0 := m) (a' := a_seat a (a_ft a) 8) (r := 0) (m := mNow (mRea m (nI 0)) (a_ft a) (-6)) (by omega) (p_nr _ _ _ _) rfl (fun _ => by rw [show (-6 : Int32) = enc 8 from rfl]; exact mNow_rel (m := mRea m (nI 0)) h _ 8)
    rw [← e2] at h2
    exact h2
  · rw [if_neg (show ¬ nI r = (0 : Int32) from nI_ne0 (by omega) (by omega))]
    have e2 := g_271 (K := K) (v1 := v1) (v2 := eb but) (v3 := v3) (v4 := nI i) (y := M_foot m) (m := mRea m (nI r)) ha.1 hft hft
    have h2 := g_end (K := K) (v1 := v1) (v2 := eb but) (v3 := v3) (i := i) (m0 := m) (a' := a_seat a (a_ft a) 8) (r := r) (m := mNow (mRea m (nI r)) (a_ft a) (M_now (mRea m (nI r)) (a_ft a))) (by omega) (p_nr _ _ _ _) rfl (fun q => absurd q er)
    rw [← e2] at h2
    exact h2
theorem foot_ok {m : sM} {a : aW} (h : relM m a) (ha : okA a) : ¬ (M_foot m < 0 ∨ 8 ≤ (M_foot m).toNatClampNeg) := by
  rw [show M_foot m = nI (a_ft a) from h.2.2.2.1]; exact nI_ok ha.1 (by decide)
theorem foot_cl {m : sM} {a : aW} (h : relM m a) (ha : okA a) : (M_foot m).toNatClampNeg = a_ft a := by
  rw [show M_foot m = nI (a_ft a) from h.2.2.2.1]; exact nI_cl (by have := ha.1; omega)
theorem g_410b {K : gK} {v1 v3 w : Int32} {i : Nat} {m : sM} {a : aW} (h : relM m a) (ha : okA a) (hi : i < 60) : gRes K v1 (eb i) v3 i m a 0 (M_turned m) (f_X11_goText_J410 K v1 (eb i) v3 (nI i) w (0 : Int32) m) := by
  have hft : M_foot m = nI (a_ft a) := h.2.2.2.1
  rw [f_X11_goText_J410, if_neg (foot_ok h ha), if_pos rfl, if_pos ((eb_iff hi).mpr rfl), foot_cl h ha]
  have e := g_445 (K := K) (v1 := v1) (v2 := eb i) (v3 := v3) (v4 := nI i) (x := M_heap m (a_ft a)) (z := 0) (y := M_foot m) (m := mRea m 0) ha.1 hft
  have h2 := g_end (K := K) (v1 := v1) (v2 := eb i) (v3 := v3) (i := i) (m0 := m) (a' := a) (r := 0) (m := mHeap (mRea m 0) (a_ft a) (M_heap m (a_ft a) + 0)) (by omega) (p_hr _ _ _ _) rfl (fun _ => heap_same (m := mRea m 0) (f := a_ft a) (x := M_heap m (a_ft a) + 0) h ha.1 (by rw [Int32.add_zero]; rfl))
  rw [← e] at h2
  exact h2
theorem g_410 {K : gK} {v1 v3 : Int32} {i but r s : Nat} {m : sM} {a : aW} (h : relM m a) (ha : okA a) (hi : i < 60) (e : i ≠ but) (hr : r ≤ 4) (hs : 48 ≤ s) : gRes K v1 (eb but) v3 i m (a_load a (a_ft a) (a_ld a (a_ft a) + (s - 48))) r (M_turned m) (f_X11_goText_J410 K v1 (eb but) v3 (nI i) (nI s) (nI r) m) := by
  have hft : M_foot m = nI (a_ft a) := h.2.2.2.1
  rw [f_X11_goText_J410, if_neg (foot_ok h ha), foot_cl h ha]
  by_cases er : r = 0
  · subst er
    rw [if_pos (show nI 0 = (0 : Int32) from rfl), if_neg (fun q => e ((eb_iff hi).mp q))]
    have e2 := g_445 (K := K) (v1 := v1) (v2 := eb but) (v3 := v3) (v4 := nI i) (x := M_heap m (a_ft a)) (z := nI s - 48) (y := M_foot m) (m := mRea m (nI 0)) ha.1 hft
    have ev : M_heap m (a_ft a) + (nI s - 48) = nI (a_ld a (a_ft a) + (s - 48)) := by
      rw [h.2.2.1 _ ha.1, show nI s - (48 : Int32) = nI (s - 48) from pk_sub (b := 48) hs, nI_add]
    have h2 := g_end (K := K) (v1 := v1) (v2 := eb but) (v3 := v3) (i := i) (m0 := m) (a' := a_load a (a_ft a) (a_ld a (a_ft a) + (s - 48))) (r := 0) (m := mHeap (mRea m (nI 0)) (a_ft a) (M_heap m (a_ft a) + (nI s - 48))) (by omega) (p_hr _ _ _ _) rfl (fun _ => by rw [ev]; exact mHeap_rel (m := mRea m (nI 0)) h _ _)
    rw [← e2] at h2
    exact h2
  · rw [if_neg (show ¬ nI r = (0 : Int32) from nI_ne0 (by omega) (by omega))]
    have e2 := g_445 (K := K) (v1 := v1) (v2 := eb but) (v3 := v3) (v4 := nI i) (x := M_heap m (a_ft a)) (z := 0) (y := M_foot m) (m := mRea m (nI r)) ha.1 hft
    have h2 := g_end (K := K) (v1 := v1) (v2 := eb but) (v3 := v3) (i := i) (m0 := m) (a' := a_load a (a_ft a) (a_ld a (a_ft a) + (s - 48))) (r := r) (m := mHeap (mRea m (nI r)) (a_ft a) (M_heap m (a_ft a) + 0)) (by omega) (p_hr _ _ _ _) rfl (fun q => absurd q er)
    rw [← e2] at h2
    exact h2
def byv (asked j : Nat) : Nat := 8 ^ (asked - 1 - j)
theorem byv_bd {asked j : Nat} (h : asked ≤ 3) : 1 ≤ byv asked j ∧ byv asked j ≤ 64 := by
  unfold byv
  have : asked - 1 - j ≤ 2 := by omega
  rcases (show asked - 1 - j = 0 ∨ asked - 1 - j = 1 ∨ asked - 1 - j = 2 by omega) with q | q | q <;> rw [q] <;> decide
theorem byv_next {asked j : Nat} (h : asked ≤ 3) (hj : j < asked) : byv asked (j + 1) = if byv asked j ≤ 1 then byv asked j else byv asked j / 8 := by
  unfold byv
  rcases (show asked - 1 - j = 0 ∨ asked - 1 - j = 1 ∨ asked - 1 - j = 2 by omega) with q | q | q <;> rw [q]
  · rw [show asked - 1 - (j + 1) = 0 by omega]; decide
  · rw [show asked - 1 - (j + 1) = 0 by omega]; decide
  · rw [show asked - 1 - (j + 1) = 1 by omega]; decide
