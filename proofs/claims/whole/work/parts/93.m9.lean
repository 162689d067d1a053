/-! events and texts, by the reference -/
theorem sg_f {s : Nat} (hs : s < 128) : f_X11_in (nI s) 65 72 = some (b2 (decide (kd s = 1)), ()) ∧ f_X11_in (nI s) 97 104 = some (b2 (decide (kd s = 2)), ()) ∧ (nI s = 94 ↔ kd s = 5) ∧ (nI s = 62 ↔ kd s = 6) ∧ (nI s = 60 ↔ kd s = 7) ∧ (nI s = 63 ↔ kd s = 8) ∧ (nI s = 48 ↔ kd s = 4) := by
  obtain ⟨-, -, -, -, t5, t6, -, t8, t9, t10, t11, t12⟩ := sg_all hs
  exact ⟨t5, t6, t8, t9, t10, t11, t12⟩
theorem p_h (m : sM) (k : Nat) (x : Int32) : pM m (mHeap m k x) := ⟨rfl, rfl, rfl, rfl, rfl, rfl, rfl, rfl, rfl, rfl, rfl⟩
def mFoot (m : sM) (x : Int32) : sM := (M_weight m, M_sits m, M_stones m, M_at m, M_drag m, M_sights m, M_sight m, M_signs m, M_pad m, x, M_turned m, M_bothWays m, M_now m, M_heap m, M_reason m, M_image m, M_isKept m)
theorem p_f (m : sM) (x : Int32) : pM m (mFoot m x) := ⟨rfl, rfl, rfl, rfl, rfl, rfl, rfl, rfl, rfl, rfl, rfl⟩
theorem mFoot_rel {m : sM} {a : aW} (h : relM m a) (f : Nat) : relM (mFoot m (nI f)) (a_foot a f) := ⟨h.1, h.2.1, h.2.2.1, rfl, h.2.2.2.2⟩
theorem g_evb {K : gK} {v1 v3 : Int32} {i s : Nat} {m : sM} {a : aW} (h : relM m a) (ha : okA a) (hr0 : M_reason m = 0) (hi : i < 60) (hs : s < 128) (hk : kd s = 1 ∨ kd s = 2 ∨ kd s = 3 ∨ kd s = 4) : gRes K v1 (eb i) v3 i m a 0 (M_turned m) (gBody K v1 (eb i) v3 (nI i) (nI s) m) := by
  have hft : M_foot m = nI (a_ft a) := h.2.2.2.1
  obtain ⟨t5, t6, t8, t9, t10, t11, t12⟩ := sg_f hs
  have eii := (eb_iff (i := i) (but := i) hi).mpr rfl
  rw [gBody, if_neg (fun q => by have := t11.mp q; omega), t5, Option.bind_some]
  show gRes _ _ _ _ _ _ _ _ _ (if b2 (decide (kd s = 1)) = 0 then _ else _)
  by_cases c1 : kd s = 1
  · rw [if_neg (fun q => (b2_d.mp q) c1), f_X11_goText_J74, if_neg (fun q => by have := t11.mp q; omega), f_X11_goText_J95, if_neg (fun q => by have := t11.mp q; omega)]
    exact g_inb h ha hi
  · rw [if_pos (b2_d.mpr c1), t6, Option.bind_some]
    show gRes _ _ _ _ _ _ _ _ _ (if b2 (decide (kd s = 2)) = 0 then _ else _)
    by_cases c2 : kd s = 2
    · rw [if_neg (fun q => (b2_d.mp q) c2), if_pos eii]
      exact g_242b h ha hi
    · rw [if_pos (b2_d.mpr c2), if_neg (fun q => by have := t10.mp q; omega), if_neg (fun q => by have := t9.mp q; omega), if_neg (fun q => by have := t8.mp q; omega)]
      by_cases c4 : kd s = 4
      · rw [if_pos (t12.mpr c4), if_pos eii, if_neg (foot_ok h ha), foot_cl h ha, g_374 ha.1 hft]
        exact g_end (m := mHeap m (a_ft a) (M_heap m (a_ft a))) (by omega) (p_h _ _ _) hr0 (fun _ => heap_same h ha.1 rfl)
      · rw [if_neg (fun q => c4 (t12.mp q)), if_pos eii]
        exact g_410b h ha hi
theorem gRes_t {K : gK} {v1 v2 v3 : Int32} {i : Nat} {m0 : sM} {a' : aW} {r : Nat} {tt tt' : Int32} {R : Option (Int32 × sM)} (h : gRes K v1 v2 v3 i m0 a' r tt R) (e : tt = tt') : gRes K v1 v2 v3 i m0 a' r tt' R := e ▸ h
theorem g_ev {K : gK} {code asked j i but s : Nat} {m : sM} {a : aW} (h : relM m a) (ha : okA a) (hr0 : M_reason m = 0) (hi : i < 60) (hs : s < 128) (hk : kd s ≠ 0) (e : i ≠ but) (hc : code < 512) (hak : asked ≤ 3) (hj : kd s = 8 → j < asked) :
    gRes K (nI code) (eb but) (nI (byv asked (if kd s = 8 then j + 1 else j))) i m (evA a s (whom s (pfc code asked j))) (evR a s (whom s (pfc code asked j))) (M_turned m + iI (evT a s)) (gBody K (nI code) (eb but) (nI (byv asked j)) (nI i) (nI s) m) := by
  have hft : M_foot m = nI (a_ft a) := h.2.2.2.1
  have h8 := ha.1
  obtain ⟨t5, t6, t8, t9, t10, t11, t12⟩ := sg_f hs
  obtain ⟨r1, r2, r3, r4, r5⟩ := kd_rng s
  have nb : ¬ nI i = eb but := fun q => e ((eb_iff hi).mp q)
  have e0 : kd s ≠ 5 → M_turned m + iI (evT a s) = M_turned m := by
    intro c
    rw [evT, if_neg c, show iI 0 = (0 : Int32) from rfl, Int32.add_zero]
  rw [gBody]
  by_cases c8 : kd s = 8
  · have hbd := byv_bd (asked := asked) (j := j) hak
    have ew : whom s (pfc code asked j) = pfc code asked j := by unfold whom; rw [if_neg (by omega), if_neg (by omega)]
    have e1 : ∀ q, evR a s q = (if cr (a_rd a) q = 8 then (if a_rd a (a_ft a) = 8 then 0 else 2) else 1) := fun q => by unfold evR; rw [if_pos (Or.inr c8)]
    have e2 : ∀ q, evA a s q = a_seat a (a_ft a) q := fun q => by unfold evA; rw [if_pos (Or.inr c8)]
    have hp : nI code / nI (byv asked j) - nI code / nI (byv asked j) / (8 : Int32) * (8 : Int32) = nI (pfc code asked j) := by
      rw [pk_div (by omega) (by omega) (by omega), md8 (Nat.lt_of_le_of_lt (Nat.div_le_self _ _) (by omega))]
      rfl
    rw [if_pos (t11.mpr c8), f_X11_goText_J74, if_pos (t11.mpr c8), if_neg (show ¬ nI (byv asked j) = 0 from nI_ne0 (by omega) (by omega)), hp, f_X11_goText_J95, if_pos (t11.mpr c8), if_pos c8, ew, e1, e2, byv_next hak (hj c8)]
    refine gRes_t ?_ (e0 (by omega)).symm
    by_cases c : byv asked j ≤ 1
    · rw [if_pos (show nI (byv asked j) ≤ (1 : Int32) from nI_le (b := 1) c (by decide)), if_pos c]
      exact g_in h ha hi (pfc_lt _ _ _) e
    · rw [if_neg (show ¬ nI (byv asked j) ≤ (1 : Int32) from nI_ge (a := 1) (by omega) (by omega)), if_neg c, show nI (byv asked j) / (8 : Int32) = nI (byv asked j / 8) from pk_div (d := 8) (by omega) (by decide) (by decide)]
      exact g_in h ha hi (pfc_lt _ _ _) e
  · rw [if_neg (fun q => c8 (t11.mp q)), t5, Option.bind_some, if_neg c8]
    show gRes _ _ _ _ _ _ _ _ _ (if b2 (decide (kd s = 1)) = 0 then _ else _)
    by_cases c1 : kd s = 1
    · have hsr := r1 c1
      have ew : whom s (pfc code asked j) = s - 65 := by unfold whom; rw [if_pos c1]
      have e1 : ∀ q, evR a s q = (if cr (a_rd a) q = 8 then (if a_rd a (a_ft a) = 8 then 0 else 2) else 1) := fun q => by unfold evR; rw [if_pos (Or.inl c1)]
      have e2 : ∀ q, evA a s q = a_seat a (a_ft a) q := fun q => by unfold evA; rw [if_pos (Or.inl c1)]
      rw [if_neg (fun q => (b2_d.mp q) c1), f_X11_goText_J74, if_neg (fun q => c8 (t11.mp q)), f_X11_goText_J95, if_neg (fun q => c8 (t11.mp q)), ew, e1, e2, show nI s - (65 : Int32) = nI (s - 65) from pk_sub (b := 65) hsr.1]
      refine gRes_t ?_ (e0 (by omega)).symm
      exact g_in h ha hi (by omega) e
    · rw [if_pos (b2_d.mpr c1), t6, Option.bind_some]
      show gRes _ _ _ _ _ _ _ _ _ (if b2 (decide (kd s = 2)) = 0 then _ else _)
      by_cases c2 : kd s = 2
      · have hsr := r2 c2
        have ew : whom s (pfc code asked j) = s - 97 := by unfold whom; rw [if_neg c1, if_pos c2]
        have e1 : evR a s (s - 97) = (if a_rd a (a_ft a) = s - 97 then 0 else 3) := by unfold evR; rw [if_neg (by omega), if_pos c2]
        have e2 : evA a s (s - 97) = a_seat a (a_ft a) 8 := by unfold evA; rw [if_neg (by omega), if_pos c2]
        have en : (enc (a_rd a (a_ft a)) = nI (s - 97)) ↔ a_rd a (a_ft a) = s - 97 := by
          rw [← enc_lt (show s - 97 < 8 by omega)]
          exact enc_inj (ha.2.2.2.2.1 _ h8) (by omega)
        rw [if_neg (fun q => (b2_d.mp q) c2), if_neg nb, if_neg (foot_ok h ha), foot_cl h ha, ew, e1, e2, show nI s - (97 : Int32) = nI (s - 97) from pk_sub (b := 97) hsr.1, h.2.1 _ h8]
        refine gRes_t ?_ (e0 (by omega)).symm
        by_cases c : a_rd a (a_ft a) = s - 97
        · rw [if_pos (en.mpr c), if_pos c]
          exact g_242 h ha hi e (r := 0) (by omega)
        · rw [if_neg (fun q => c (en.mp q)), if_neg c]
          exact g_242 h ha hi e (r := 3) (by omega)
      · rw [if_pos (b2_d.mpr c2)]
        have turn : ∀ (b : Int) (s2 : Int32), (b = 1 ∧ s2 = 1) ∨ (b = -1 ∧ s2 = 7) → gRes K (nI code) (eb but) (nI (byv asked j)) i m (a_foot a (tu (a_ft a) b)) 0 (M_turned m) (f_X11_goText_J316 K (nI code) (eb but) (nI (byv asked j)) (nI i) (M_foot m) s2 m) := by
          intro b s2 hb
          have e9 : M_foot m + s2 - (M_foot m + s2) / (8 : Int32) * (8 : Int32) = nI (tu (a_ft a) b) := by
            rw [hft]
            rcases hb with ⟨hb, hs2⟩ | ⟨hb, hs2⟩
            · rw [hs2, show nI (a_ft a) + (1 : Int32) = nI (a_ft a + 1) from nI_1 _, md8 (by omega), hb]
              congr 1
              try (unfold tu; omega)
            · rw [hs2, show nI (a_ft a) + (7 : Int32) = nI (a_ft a + 7) from nI_add _ 7, md8 (by omega), hb]
              congr 1
              try (unfold tu; omega)
          rw [f_X11_goText_J316, e9]
          exact g_end (m := mFoot m (nI (tu (a_ft a) b))) (by omega) (p_f _ _) hr0 (fun _ => mFoot_rel h _)
        by_cases c7 : kd s = 7
        · have e1 : evR a s (whom s (pfc code asked j)) = 0 := by unfold evR; rw [if_neg (by omega), if_neg (by omega), if_neg (by omega)]
          have e2 : evA a s (whom s (pfc code asked j)) = a_foot a (tu (a_ft a) (-1)) := by unfold evA; rw [if_neg (by omega), if_neg (by omega), if_neg (by omega), if_neg (by omega), if_neg (by omega), if_neg (by omega), if_pos c7]
          rw [if_pos (t10.mpr c7), f_X11_goText_J298, if_neg (fun q => by have := t9.mp q; omega), e1, e2]
          exact gRes_t (turn (-1) 7 (Or.inr ⟨rfl, rfl⟩)) (e0 (by omega)).symm
        · rw [if_neg (fun q => c7 (t10.mp q))]
          by_cases c6 : kd s = 6
          · have e1 : evR a s (whom s (pfc code asked j)) = 0 := by unfold evR; rw [if_neg (by omega), if_neg (by omega), if_neg (by omega)]
            have e2 : evA a s (whom s (pfc code asked j)) = a_foot a (tu (a_ft a) 1) := by unfold evA; rw [if_neg (by omega), if_neg (by omega), if_neg (by omega), if_neg (by omega), if_neg (by omega), if_pos c6]
            rw [if_pos (t9.mpr c6), f_X11_goText_J298, if_pos (t9.mpr c6), e1, e2]
            exact gRes_t (turn 1 1 (Or.inl ⟨rfl, rfl⟩)) (e0 (by omega)).symm
          · rw [if_neg (fun q => c6 (t9.mp q))]
            by_cases c5 : kd s = 5
            · have e1 : evR a s (whom s (pfc code asked j)) = 0 := by unfold evR; rw [if_neg (by omega), if_neg (by omega), if_neg (by omega)]
              have e2 : evA a s (whom s (pfc code asked j)) = a_foot a (aLet a).2 := by unfold evA; rw [if_neg (by omega), if_neg (by omega), if_neg (by omega), if_neg (by omega), if_pos c5]
              obtain ⟨m', g1, g2, g3, g4, -, g6⟩ := x_letGo h ha
              rw [if_pos (t8.mpr c5), g1, Option.bind_some, e1, e2, evT, if_pos c5, ← g4]
              exact g_end (by omega) g2 (g6.trans hr0) (fun _ => g3)
            · rw [if_neg (fun q => c5 (t8.mp q))]
              refine gRes_t ?_ (e0 c5).symm
              by_cases c4 : kd s = 4
              · have e1 : evR a s (whom s (pfc code asked j)) = 0 := by unfold evR; rw [if_neg (by omega), if_neg (by omega), if_neg (by omega)]
                have e2 : evA a s (whom s (pfc code asked j)) = a_load a (a_ft a) 0 := by unfold evA; rw [if_neg (by omega), if_neg (by omega), if_neg (by omega), if_pos c4]
                rw [if_pos (t12.mpr c4), if_neg nb, g_374 h8 hft, e1, e2]
                exact g_end (m := mHeap m (a_ft a) (nI 0)) (by omega) (p_h _ _ _) hr0 (fun _ => mHeap_rel h _ 0)
              · have c3 : kd s = 3 := by omega
                have hsr := r3 c3
                have hl := ha.2.2.2.1 _ h8
                have e1 : evR a s (whom s (pfc code asked j)) = (if a_ld a (a_ft a) + (s - 48) ≤ 99 then 0 else 4) := by unfold evR; rw [if_neg (by omega), if_neg (by omega), if_pos c3]
                have e2 : evA a s (whom s (pfc code asked j)) = a_load a (a_ft a) (a_ld a (a_ft a) + (s - 48)) := by unfold evA; rw [if_neg (by omega), if_neg (by omega), if_pos c3]
                have e3 : nI (a_ld a (a_ft a)) + nI s - (48 : Int32) = nI (a_ld a (a_ft a) + (s - 48)) := by
                  rw [nI_add, show nI (a_ld a (a_ft a) + s) - (48 : Int32) = nI (a_ld a (a_ft a) + s - 48) from pk_sub (b := 48) (by omega)]
                  congr 1
                  omega
                rw [if_neg (fun q => c4 (t12.mp q)), if_neg nb, if_neg (foot_ok h ha), foot_cl h ha, h.2.2.1 _ h8, e3, e1, e2]
                by_cases c : a_ld a (a_ft a) + (s - 48) ≤ 99
                · rw [if_pos (show nI (a_ld a (a_ft a) + (s - 48)) ≤ (99 : Int32) from nI_le (b := 99) c (by decide)), if_pos c]
                  exact g_410 h ha hi e (r := 0) (by omega) (by omega)
                · rw [if_neg (show ¬ nI (a_ld a (a_ft a) + (s - 48)) ≤ (99 : Int32) from nI_ge (a := 99) (by omega) (by omega)), if_neg c]
                  exact g_410 h ha hi e (r := 4) (by omega) (by omega)
