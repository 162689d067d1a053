/-! judge, done, behind, leftOut -/
theorem i0' {σ α : Type} {s : σ} {A B : α} : (if ((0 : Int32), s).1 = 0 then A else B) = A := if_pos rfl
theorem i1' {σ α : Type} {s : σ} {A B : α} : (if ((1 : Int32), s).1 = 0 then A else B) = B := if_neg (show ¬ (1 : Int32) = 0 by decide)
theorem bar_c {u : sP} {m : sM} {len : Nat} {sg : Nat → Nat} (hP : relP u m len sg) : (f_X10_refuseText u = some (-5, ()) ∧ ∃ z, f_X11_faultOf m = some (z, ()) ∧ ¬ z < 0) ∨ (f_X10_refuseText u = some (-3, ()) ∧ (∃ z, f_X11_faultOf m = some (z, ()) ∧ z < 0) ∧ ∃ z, f_X11_opens m = some (z, ()) ∧ ¬ z ≤ 0) ∨ (f_X10_refuseText u = some (0, ()) ∧ (∃ z, f_X11_faultOf m = some (z, ()) ∧ z < 0) ∧ f_X11_opens m = some (0, ()) ∧ clean sg len ∧ askN sg len = 0) := by
  have hl := hP.1
  unfold f_X10_refuseText
  rw [p_fault hP, Option.bind_some, m_fault hP, m_opens hP]
  show ((if fltI sg len 0 = -6 then _ else _) = _ ∧ _) ∨ ((if fltI sg len 0 = -6 then _ else _) = _ ∧ _) ∨ ((if fltI sg len 0 = -6 then _ else _) = _ ∧ _)
  by_cases c : (flt sg len 0).2 = false
  · rw [if_pos ((fltI_no hl).mpr c), f_X4_asked, Option.bind_some, show P_asked u = nI (askN sg len) from hP.2.2.2.1]
    have hq := flt_clean c
    have h3 := hq.2
    by_cases e : askN sg len = 0
    · rw [e]
      exact Or.inr (Or.inr ⟨rfl, ⟨_, rfl, (fltI_neg hl).mpr c⟩, rfl, hq, rfl⟩)
    · have g : ¬ nI (askN sg len) ≤ 0 := nI_nle (by omega) (by omega)
      refine Or.inr (Or.inl ⟨?_, ⟨_, rfl, (fltI_neg hl).mpr c⟩, _, rfl, g⟩)
      show (if nI (askN sg len) ≤ 0 then _ else _) = _
      rw [if_neg g]
  · rw [if_neg (fun q => c ((fltI_no hl).mp q))]
    exact Or.inl ⟨rfl, _, rfl, fun q => c ((fltI_neg hl).mp q)⟩
theorem okX_60 {sg : Nat → Nat} {len : Nat} (h : clean sg len) (hl : len ≤ 60) : okX sg len 60 := ⟨h, fun q => absurd q (by omega)⟩
theorem tell6 {u : sP} {m : sM} {len : Nat} {sg : Nat → Nat} (hp : relP u m len sg) (hx : clean sg len) {w : sW} {a : aW} (hw : relW w a) (ha : okA a) (t : sT) {code : Nat} (hc : code < 512) :
    ∃ t', f_X7_tell t w u (-6 : Int32) (nI code) = some (b2 (tell sg len code 60 a).1, t') ∧
      ((tell sg len code 60 a).1 = true → relW (T_wheel t') (tell sg len code 60 a).2.2.2.1 ∧ okA (tell sg len code 60 a).2.2.2.1 ∧ T_turned t' = iI (tell sg len code 60 a).2.2.2.2 ∧ T_failedEvent t' = -6 ∧ T_reason t' = -6) ∧
      ((tell sg len code 60 a).1 = false → T_failedEvent t' = nI (tell sg len code 60 a).2.1 ∧ T_reason t' = nI (tell sg len code 60 a).2.2.1) := by
  have := t_tell hp (okX_60 hx hp.1) hw ha t hc
  rw [show eb 60 = (-6 : Int32) from rfl] at this
  exact this
theorem go6 {u : sP} {m : sM} {len : Nat} {sg : Nat → Nat} (hp : relP u m len sg) (hx : clean sg len) {a : aW} (h0 : rel0 m a) (ha : okA a) {code : Nat} (hc : code < 512) :
    ∃ m', f_X11_goText m (nI code) (-6 : Int32) = some (if (tell sg len code 60 a).1 = true then -6 else nI (tell sg len code 60 a).2.1, m') ∧ pM m m' ∧
      ((tell sg len code 60 a).1 = true → relM m' (tell sg len code 60 a).2.2.2.1 ∧ M_turned m' = iI (tell sg len code 60 a).2.2.2.2) ∧
      ((tell sg len code 60 a).1 = false → M_reason m' = nI (tell sg len code 60 a).2.2.1 ∧ (tell sg len code 60 a).2.1 < 60) := by
  have := x_goText hp (okX_60 hx hp.1) h0 ha hc
  rw [show eb 60 = (-6 : Int32) from rfl] at this
  exact this
theorem c_judge {w : sW} {u : sP} {v : sS} {j1 j2 : sI} {m : sM} (I : Inv w u v j1 j2 m) (t : sT) (x : Int32) : ∃ r t' m', f_X10_judge w u t x = some (r, t') ∧ f_X11_judge m x = some (r, m') ∧ Inv w u v j1 j2 m' := by
  obtain ⟨⟨a, ha, hw, h0⟩, ⟨len, sg, hP⟩, hS, hI1, hI2⟩ := id I
  unfold f_X10_judge f_X11_judge
  rcases rng x (lo := 0) (hi := 1) 0 1 rfl rfl (by omega) (by omega) with ⟨r1, r2⟩ | ⟨r1, r2, -, r3⟩ | ⟨r1, r2, -, r3, n, hn1, hn2, rfl⟩
  · rw [if_pos r1, r2, Option.bind_some, i0]; exact ⟨_, _, _, rfl, rfl, I⟩
  · rw [if_neg r1, if_neg r2, r3, Option.bind_some, i0]; exact ⟨_, _, _, rfl, rfl, I⟩
  · rw [if_neg r1, if_pos r2, r3, Option.bind_some, i1]
    rcases bar_c hP with ⟨q1, z, q2, q3⟩ | ⟨q1, ⟨z, q2, q3⟩, z2, q4, q5⟩ | ⟨q1, ⟨z, q2, q3⟩, q4, q5, q6⟩
    · rw [q1, q2, Option.bind_some, Option.bind_some, if_neg (show ¬ ((-5 : Int32), ()).1 = 0 by decide), if_neg (show ¬ (z, ()).1 < 0 from q3)]
      exact ⟨_, _, _, rfl, rfl, I⟩
    · rw [q1, q2, Option.bind_some, Option.bind_some, if_neg (show ¬ ((-3 : Int32), ()).1 = 0 by decide), if_pos (show (z, ()).1 < 0 from q3), q4, Option.bind_some, if_neg (show ¬ (z2, ()).1 ≤ 0 from q5)]
      exact ⟨_, _, _, rfl, rfl, I⟩
    · obtain ⟨t', g1, g2, g3⟩ := tell6 hP q5 hw ha t (code := 0) (by omega)
      obtain ⟨m', g4, g5, g6, g7⟩ := go6 hP q5 h0 ha (code := 0) (by omega)
      have g1 : f_X7_tell t w u (-6 : Int32) 0 = _ := g1
      have g4 : f_X11_goText m 0 (-6 : Int32) = _ := g4
      rw [q1, q2, Option.bind_some, Option.bind_some, i0, if_pos (show (z, ()).1 < 0 from q3), q4, Option.bind_some, if_pos (show ((0 : Int32), ()).1 ≤ 0 by decide), g1, g4, Option.bind_some, Option.bind_some]
      by_cases e : (tell sg len 0 60 a).1 = true
      · obtain ⟨-, -, -, e4, e5⟩ := g2 e
        rw [if_pos e, if_pos (show ((-6 : Int32), m').1 < 0 by show (-6 : Int32) < 0; decide)]
        rcases (show n = 0 ∨ n = 1 by omega) with rfl | rfl
        · rw [if_pos (show nI 0 = (0 : Int32) from rfl), f_X7_failedEvent, Option.bind_some, show T_failedEvent t' = -6 from e4]
          exact ⟨_, _, _, rfl, rfl, I.p g5⟩
        · rw [if_neg (show ¬ nI 1 = (0 : Int32) by decide), f_X7_reason, Option.bind_some, show T_reason t' = -6 from e5]
          exact ⟨_, _, _, rfl, rfl, I.p g5⟩
      · have e2 : (tell sg len 0 60 a).1 = false := by simpa using e
        obtain ⟨e4, e5⟩ := g3 e2
        obtain ⟨e6, e7⟩ := g7 e2
        rw [if_neg e, if_neg (show ¬ (nI (tell sg len 0 60 a).2.1, m').1 < 0 from nI_pos (by omega))]
        rcases (show n = 0 ∨ n = 1 by omega) with rfl | rfl
        · rw [if_pos (show nI 0 = (0 : Int32) from rfl), if_pos (show nI 0 = (0 : Int32) from rfl), f_X7_failedEvent, Option.bind_some, show T_failedEvent t' = _ from e4]
          exact ⟨_, _, _, rfl, rfl, I.p g5⟩
        · rw [if_neg (show ¬ nI 1 = (0 : Int32) by decide), if_neg (show ¬ nI 1 = (0 : Int32) by decide), f_X7_reason, Option.bind_some, show T_reason t' = _ from e5, show M_reason m' = _ from e6]
          exact ⟨_, _, _, rfl, rfl, I.p g5⟩
theorem ev_c {w : sW} {u : sP} {m : sM} {a : aW} (ha : okA a) (hw : relW w a) (h0 : rel0 m a) {len : Nat} {sg : Nat → Nat} (hP : relP u m len sg) (t : sT) : ∃ r t' m', f_X10_refuseEvening w u t = some (r, t') ∧ f_X11_barOfText m = some (r, m') ∧ pM m m' ∧ ((r = 0 ∧ clean sg len ∧ askN sg len = 0 ∧ ∃ a' tt, okA a' ∧ relW (T_wheel t') a' ∧ relM m' a' ∧ T_turned t' = iI tt ∧ M_turned m' = iI tt) ∨ (r ≠ 0 ∧ ¬ 0 ≤ r)) := by
  unfold f_X10_refuseEvening f_X11_barOfText
  rcases bar_c hP with ⟨q1, z, q2, q3⟩ | ⟨q1, ⟨z, q2, q3⟩, z2, q4, q5⟩ | ⟨q1, ⟨z, q2, q3⟩, q4, q5, q6⟩
  · rw [q1, q2, Option.bind_some, Option.bind_some, if_neg (show ¬ ((-5 : Int32), ()).1 = 0 by decide), if_neg (show ¬ (z, ()).1 < 0 from q3)]
    exact ⟨_, _, _, rfl, rfl, pM.rf m, Or.inr ⟨by show (-5 : Int32) ≠ 0; decide, by show ¬ (0 : Int32) ≤ -5; decide⟩⟩
  · rw [q1, q2, Option.bind_some, Option.bind_some, if_neg (show ¬ ((-3 : Int32), ()).1 = 0 by decide), if_pos (show (z, ()).1 < 0 from q3), q4, Option.bind_some, if_neg (show ¬ (z2, ()).1 ≤ 0 from q5)]
    exact ⟨_, _, _, rfl, rfl, pM.rf m, Or.inr ⟨by show (-3 : Int32) ≠ 0; decide, by show ¬ (0 : Int32) ≤ -3; decide⟩⟩
  · obtain ⟨t', g1, g2, g3⟩ := tell6 hP q5 hw ha t (code := 0) (by omega)
    obtain ⟨m', g4, g5, g6, g7⟩ := go6 hP q5 h0 ha (code := 0) (by omega)
    have g1 : f_X7_tell t w u (-6 : Int32) 0 = _ := g1
    have g4 : f_X11_goText m 0 (-6 : Int32) = _ := g4
    rw [q1, q2, Option.bind_some, Option.bind_some, i0, if_pos (show (z, ()).1 < 0 from q3), q4, Option.bind_some, if_pos (show ((0 : Int32), ()).1 ≤ 0 by decide), g1, g4, Option.bind_some, Option.bind_some]
    by_cases e : (tell sg len 0 60 a).1 = true
    · obtain ⟨e1, e2, e3, -⟩ := g2 e
      obtain ⟨e4, e5⟩ := g6 e
      rw [if_pos e, e, if_neg (show ¬ (b2 true, t').1 = 0 by show ¬ b2 true = 0; decide), if_pos (show ((-6 : Int32), m').1 < 0 by show (-6 : Int32) < 0; decide)]
      exact ⟨_, _, _, rfl, rfl, g5, Or.inl ⟨rfl, q5, q6, _, _, e2, e1, e4, e3, e5⟩⟩
    · have e2 : (tell sg len 0 60 a).1 = false := by simpa using e
      obtain ⟨-, e7⟩ := g7 e2
      rw [if_neg e, e2, if_pos (show (b2 false, t').1 = 0 from rfl), if_neg (show ¬ (nI (tell sg len 0 60 a).2.1, m').1 < 0 from nI_pos (by omega))]
      exact ⟨_, _, _, rfl, rfl, g5, Or.inr ⟨by show (-5 : Int32) ≠ 0; decide, by show ¬ (0 : Int32) ≤ -5; decide⟩⟩
theorem x_done_L : ∀ (n c : Nat) (m : sM), c ≤ 8 → 8 - c < n → ∃ g h, f_X11_done_L21 n (nI c) m = some (M_signs m, (M_weight m, g, h, M_at m, M_drag m, M_sights m, M_sight m, 0, M_pad m, M_foot m, M_turned m, M_bothWays m, M_now m, M_heap m, M_reason m, M_image m, M_isKept m)) ∧ (∀ k, g k = if c ≤ k ∧ k < 8 then M_now m k else M_sits m k) ∧ ∀ k, h k = if c ≤ k ∧ k < 8 then M_heap m k else M_stones m k := by
  intro n
  induction n with
  | zero => intro c m _ h; omega
  | succ n ih =>
    intro c m hc hn
    rw [f_X11_done_L21]
    by_cases e : c = 8
    · subst e
      rw [if_pos (show (8 : Int32) ≤ nI 8 by decide)]
      refine ⟨_, _, rfl, fun k => ?_, fun k => ?_⟩
      · rw [if_neg (by omega)]
      · rw [if_neg (by omega)]
    · have hlt : c < 8 := by omega
      have g := nI_ok hlt (show 8 < 2147483648 by decide)
      rw [if_neg (show ¬ (8 : Int32) ≤ nI c from nI_ge hlt (by decide)), if_neg g, if_neg g, if_neg g, if_neg g, nI_cl (show c < 2147483648 by omega), show nI c + (1 : Int32) = nI (c + 1) from nI_1 c]
      obtain ⟨g1, g2, h1, h7, h8⟩ := ih (c + 1) (M_weight m, upd (M_sits m) c (M_now m c), upd (M_stones m) c (M_heap m c), M_at m, M_drag m, M_sights m, M_sight m, M_signs m, M_pad m, M_foot m, M_turned m, M_bothWays m, M_now m, M_heap m, M_reason m, M_image m, M_isKept m) (by omega) (by omega)
      refine ⟨g1, g2, h1, fun k => ?_, fun k => ?_⟩
      · rw [h7 k]
        show (if c + 1 ≤ k ∧ k < 8 then M_now m k else upd (M_sits m) c (M_now m c) k) = _
        rw [upd_at]
        by_cases e1 : k = c
        · rw [if_neg (by omega), if_pos e1, if_pos (by omega), e1]
        · rw [if_neg e1]
          by_cases e2 : c + 1 ≤ k ∧ k < 8
          · rw [if_pos e2, if_pos (by omega)]
          · rw [if_neg e2, if_neg (by omega)]
      · rw [h8 k]
        show (if c + 1 ≤ k ∧ k < 8 then M_heap m k else upd (M_stones m) c (M_heap m c) k) = _
        rw [upd_at]
        by_cases e1 : k = c
        · rw [if_neg (by omega), if_pos e1, if_pos (by omega), e1]
        · rw [if_neg e1]
          by_cases e2 : c + 1 ≤ k ∧ k < 8
          · rw [if_pos e2, if_pos (by omega)]
          · rw [if_neg e2, if_neg (by omega)]
theorem c_done {w : sW} {u : sP} {v : sS} {j1 j2 : sI} {m : sM} (I : Inv w u v j1 j2 m) (t : sT) : ∃ r w' u' t' m', f_X10_done w u t = some (r, (w', u', t')) ∧ f_X11_done m = some (r, m') ∧ Inv w' u' v j1 j2 m' := by
  obtain ⟨⟨a, ha, hw, h0⟩, ⟨len, sg, hP⟩, hS, hI1, hI2⟩ := id I
  obtain ⟨r, t', m', g1, g2, g3, g4⟩ := ev_c ha hw h0 hP t
  unfold f_X10_done f_X11_done
  rw [g1, g2, Option.bind_some, Option.bind_some]
  rcases g4 with ⟨rfl, g5, g6, a', tt, g7, g8, g9, -⟩ | ⟨g5, g6⟩
  · obtain ⟨w', e1, e2⟩ := w_copyFrom g8 w
    obtain ⟨g, h, e3, e4, e5⟩ := x_done_L oF 0 (M_weight m', M_sits m', M_stones m', M_foot m', M_drag m', M_sights m', M_sight m', M_signs m', M_pad m', M_foot m', M_turned m', M_bothWays m', M_now m', M_heap m', M_reason m', M_image m', M_isKept m') (by omega) (by have := oF_ge; omega)
    have e3 : f_X11_done_L21 oF 0 _ = _ := e3
    rw [if_pos (show ((0 : Int32), t').1 = 0 from rfl), if_pos (show 0 ≤ ((0 : Int32), m').1 by show (0 : Int32) ≤ 0; decide)]
    have hs : M_signs m' = nI len := by rw [g3.2.2.2.2.2.2.2.1]; exact hP.2.2.1
    have hp : M_pad m' = M_pad m := g3.2.2.2.2.2.2.2.2.1
    refine ⟨M_signs m', w', (P_signs u, 0, 0), t', _, ?_, e3, ⟨a', g7, e2, g9.1, fun k hk => ?_, fun k hk => ?_, g9.2.2.2.1, g9.2.2.2.2⟩, ⟨0, sg, by omega, rfl, rfl, rfl, fun k hk => absurd hk (by omega)⟩, hS.o g3.2.2.2.2.2.1 g3.2.2.2.2.2.2.1, hI1.o g3.2.2.2.2.2.2.2.2.2.1 g3.2.2.2.2.2.2.2.2.2.2, hI2.o g3.2.2.2.2.2.2.2.2.2.1 g3.2.2.2.2.2.2.2.2.2.2⟩
    · show (f_X9_copyFrom w (T_wheel t')).bind _ = _
      rw [e1, hs, ← show P_length u = nI len from hP.2.1]; rfl
    · show g k = _
      rw [e4 k, if_pos ⟨Nat.zero_le _, hk⟩]; exact g9.2.1 k hk
    · show h k = _
      rw [e5 k, if_pos ⟨Nat.zero_le _, hk⟩]; exact g9.2.2.1 k hk
  · rw [if_neg (show ¬ (r, t').1 = 0 from g5), if_neg (show ¬ 0 ≤ (r, m').1 from g6)]
    exact ⟨_, _, _, _, _, rfl, rfl, I.p g3⟩
theorem c_behind {w : sW} {u : sP} {v : sS} {j1 j2 : sI} {m : sM} (I : Inv w u v j1 j2 m) (t : sT) (x : Int32) : ∃ r t' m', f_X10_behind w u t x = some (r, t') ∧ f_X11_behind m x = some (r, m') ∧ Inv w u v j1 j2 m' := by
  obtain ⟨⟨a, ha, hw, h0⟩, ⟨len, sg, hP⟩, hS, hI1, hI2⟩ := id I
  unfold f_X10_behind f_X11_behind
  rcases rng x (lo := 0) (hi := 2) 0 2 rfl rfl (by omega) (by omega) with ⟨r1, r2⟩ | ⟨r1, r2, -, r3⟩ | ⟨r1, r2, -, r3, n, hn1, hn2, rfl⟩
  · rw [if_pos r1, r2, Option.bind_some, i0]; exact ⟨_, _, _, rfl, rfl, I⟩
  · rw [if_neg r1, if_neg r2, r3, Option.bind_some, i0]; exact ⟨_, _, _, rfl, rfl, I⟩
  · obtain ⟨r, t', m', g1, g2, g3, g4⟩ := ev_c ha hw h0 hP t
    rw [if_neg r1, if_pos r2, r3, Option.bind_some, i1, g1, g2, Option.bind_some, Option.bind_some]
    rcases g4 with ⟨rfl, g5, g6, a', tt, g7, g8, g9, g10, g11⟩ | ⟨g5, g6⟩
    · have hf1 : W_lowest (T_wheel t') = nI (a_ft a') := g8.2.2.2.2.1
      have hf2 : M_foot m' = nI (a_ft a') := g9.2.2.2.1
      have e1 := w_pullAt g8 g7 g7.1
      have e2 := x_pullAt g9 g7 g7.1
      rw [if_pos (show ((0 : Int32), t').1 = 0 from rfl), if_pos (show 0 ≤ ((0 : Int32), m').1 by show (0 : Int32) ≤ 0; decide)]
      rcases (show n = 0 ∨ n = 1 ∨ n = 2 by omega) with rfl | rfl | rfl
      · rw [if_pos (show nI 0 = (0 : Int32) from rfl), if_pos (show nI 0 = (0 : Int32) from rfl)]
        exact ⟨nI (a_ft a'), t', m', by rw [← hf1]; rfl, by rw [← hf2], I.p g3⟩
      · rw [if_neg (show ¬ nI 1 = (0 : Int32) by decide), if_neg (show ¬ nI 1 = (0 : Int32) by decide), if_pos (show nI 1 = (1 : Int32) from rfl), if_pos (show nI 1 = (1 : Int32) from rfl)]
        refine ⟨iI (aP a' (a_ft a')) + 1000000, t', m', ?_, ?_, I.p g3⟩
        · show (f_X9_pullNow (T_wheel t')).bind _ = _
          rw [f_X9_pullNow, hf1, e1]; rfl
        · show (f_X11_pullAt m' (M_foot m')).bind _ = _
          rw [hf2, e2]; rfl
      · rw [if_neg (show ¬ nI 2 = (0 : Int32) by decide), if_neg (show ¬ nI 2 = (0 : Int32) by decide), if_neg (show ¬ nI 2 = (1 : Int32) by decide), if_neg (show ¬ nI 2 = (1 : Int32) by decide)]
        exact ⟨iI tt + 1000, t', m', by rw [← g10]; rfl, by rw [← g11], I.p g3⟩
    · rw [if_neg (show ¬ (r, t').1 = 0 from g5), if_neg (show ¬ 0 ≤ (r, m').1 from g6)]
      exact ⟨_, _, _, rfl, rfl, I.p g3⟩
theorem ev_left {w : sW} {u : sP} {m0 : sM} {a : aW} (ha : okA a) (hw : relW w a) (h0 : rel0 m0 a) {len : Nat} {sg : Nat → Nat} (hP : relP u m0 len sg) (hc : clean sg len) (hask : askN sg len = 0) (v1 v3 : Int32) : ∀ (n k : Nat) (v4 : Int32) (t : sT) (m : sM), k ≤ len → len - k < n → pM m0 m → ∃ r t' m', f_X10_leftOut_L28 w u n v1 v3 v4 (nI k) t = some (r, t') ∧ f_X11_leftOut_L22 n v1 v3 v4 (nI k) m = some (r, m') ∧ pM m0 m' := by
  have h60 := hP.1
  intro n
  induction n with
  | zero => intro k v4 t m _ h; omega
  | succ n ih =>
    intro k v4 t m hk hn hpm
    have hPm := hP.p hpm
    rw [f_X10_leftOut_L28, f_X11_leftOut_L22, f_X4_length, Option.bind_some, show P_length u = nI len from hP.2.1, show M_signs m = nI len from hPm.2.2.1]
    by_cases e : k = len
    · have g : nI len ≤ nI k := nI_le (by omega) (by omega)
      rw [if_pos (show (nI len, ()).1 ≤ nI k from g), if_pos g]
      by_cases e1 : v1 = -1
      · rw [if_pos e1, if_pos e1]; exact ⟨_, _, _, rfl, rfl, hpm⟩
      · rw [if_neg e1, if_neg e1]; exact ⟨_, _, _, rfl, rfl, hpm⟩
    · have hlt : k < len := by omega
      have g : ¬ nI len ≤ nI k := nI_ge hlt (by omega)
      have g2 : ¬ (nI k < 0 ∨ 60 ≤ (nI k).toNatClampNeg) := nI_ok (by omega) (by decide)
      have hs := hPm.2.2.2.2 k hlt
      obtain ⟨-, -, -, t4, -, -, -, t8, t9, t10, t11, -⟩ := sg_all (s := sg k) (by omega)
      rw [if_neg (show ¬ (nI len, ()).1 ≤ nI k from g), if_neg g, if_neg g2, if_neg g2, if_neg g2, nI_cl (show k < 2147483648 by omega), show M_pad m k = nI (sg k) from hs.2.2.2, f_X10_canBeLeftOut, p_sign hP hlt, Option.bind_some, show nI k + (1 : Int32) = nI (k + 1) from nI_1 k]
      show ∃ r t' m', ((f_X4_isMotion (nI (sg k))).bind _).bind _ = _ ∧ _
      rw [t4, Option.bind_some]
      show ∃ r t' m', Option.bind (if b2 (decide (kd (sg k) = 5 ∨ kd (sg k) = 6 ∨ kd (sg k) = 7)) = 0 then _ else _) _ = _ ∧ _
      by_cases cm : kd (sg k) = 5 ∨ kd (sg k) = 6 ∨ kd (sg k) = 7
      · have hm : (if nI (sg k) = (94 : Int32) then f_X11_leftOut_J72 (f_X11_leftOut_L22 n) v1 v3 v4 (nI k) (1 : Int32) m else if nI (sg k) = (60 : Int32) then f_X11_leftOut_J72 (f_X11_leftOut_L22 n) v1 v3 v4 (nI k) (1 : Int32) m else if nI (sg k) = (62 : Int32) then f_X11_leftOut_J72 (f_X11_leftOut_L22 n) v1 v3 v4 (nI k) (1 : Int32) m else f_X11_leftOut_J72 (f_X11_leftOut_L22 n) v1 v3 v4 (nI k) (0 : Int32) m) = f_X11_leftOut_L22 n v1 v3 v4 (nI (k + 1)) m := by
          have e9 : f_X11_leftOut_J72 (f_X11_leftOut_L22 n) v1 v3 v4 (nI k) (1 : Int32) m = f_X11_leftOut_L22 n v1 v3 v4 (nI (k + 1)) m := by
            rw [f_X11_leftOut_J72, if_neg (show ¬ (1 : Int32) = 0 by decide), show nI k + (1 : Int32) = nI (k + 1) from nI_1 k]
          by_cases c5 : kd (sg k) = 5
          · rw [if_pos (t8.mpr c5), e9]
          · rw [if_neg (fun q => c5 (t8.mp q))]
            by_cases c7 : kd (sg k) = 7
            · rw [if_pos (t10.mpr c7), e9]
            · rw [if_neg (fun q => c7 (t10.mp q)), if_pos (t9.mpr (by omega)), e9]
        rw [hm, if_neg (fun q => (b2_d.mp q) cm)]
        exact ih (k + 1) v4 t m (by omega) (by omega) hpm
      · have hm : (if nI (sg k) = (94 : Int32) then f_X11_leftOut_J72 (f_X11_leftOut_L22 n) v1 v3 v4 (nI k) (1 : Int32) m else if nI (sg k) = (60 : Int32) then f_X11_leftOut_J72 (f_X11_leftOut_L22 n) v1 v3 v4 (nI k) (1 : Int32) m else if nI (sg k) = (62 : Int32) then f_X11_leftOut_J72 (f_X11_leftOut_L22 n) v1 v3 v4 (nI k) (1 : Int32) m else f_X11_leftOut_J72 (f_X11_leftOut_L22 n) v1 v3 v4 (nI k) (0 : Int32) m) = f_X11_leftOut_J72 (f_X11_leftOut_L22 n) v1 v3 v4 (nI k) (0 : Int32) m := by
          rw [if_neg (fun q => cm (Or.inl (t8.mp q))), if_neg (fun q => cm (Or.inr (Or.inr (t10.mp q)))), if_neg (fun q => cm (Or.inr (Or.inl (t9.mp q))))]
        have h63 : sg k ≠ 63 := fun q => by have := askN_lt sg hlt q; omega
        have hx : okX sg len k := ⟨hc, fun _ => ⟨h63, fun q => cm (Or.inl q), fun q => cm (Or.inr (Or.inl q)), fun q => cm (Or.inr (Or.inr q))⟩⟩
        obtain ⟨t', g3, g4, -⟩ := t_tell hP hx hw ha t (code := 0) (by omega)
        obtain ⟨m', g5, g6, g7, g8⟩ := x_goText hPm hx (h0.p hpm) ha (code := 0) (by omega)
        have ek : eb k = nI k := if_pos (by omega)
        rw [ek] at g3 g5
        have g3 : f_X7_tell t w u (nI k) 0 = _ := g3
        have g5 : f_X11_goText m 0 (nI k) = _ := g5
        rw [hm, if_pos (b2_d.mpr cm), g3, Option.bind_some, f_X11_leftOut_J72, if_pos rfl, g5, Option.bind_some, show nI k + (1 : Int32) = nI (k + 1) from nI_1 k]
        by_cases e2 : (tell sg len 0 k a).1 = true
        · obtain ⟨d1, d2, -⟩ := g4 e2
          obtain ⟨d3, -⟩ := g7 e2
          rw [e2, if_pos rfl, if_neg (show ¬ (b2 true, t').1 = 0 by show ¬ b2 true = 0; decide), f_X9_lowest, Option.bind_some, if_neg (show ¬ 0 ≤ ((-6 : Int32), m').1 by show ¬ (0 : Int32) ≤ -6; decide)]
          show ∃ r t'' m'', Option.bind (if W_lowest (T_wheel t') = v3 then _ else _) _ = _ ∧ (if M_foot m' = v3 then _ else _) = _ ∧ _
          rw [show W_lowest (T_wheel t') = _ from d1.2.2.2.2.1, show M_foot m' = _ from d3.2.2.2.1]
          by_cases e3 : nI (a_ft (tell sg len 0 k a).2.2.2.1) = v3
          · rw [if_pos e3, if_pos e3, Option.bind_some, i1']
            by_cases e4 : v4 = v1
            · rw [if_pos e4, if_pos e4]; exact ⟨_, _, _, rfl, rfl, hpm.tr g6⟩
            · rw [if_neg e4, if_neg e4]; exact ih (k + 1) (v4 + 1) t' m' (by omega) (by omega) (hpm.tr g6)
          · rw [if_neg e3, if_neg e3, Option.bind_some, i0']
            exact ih (k + 1) v4 t' m' (by omega) (by omega) (hpm.tr g6)
        · have e2 : (tell sg len 0 k a).1 = false := by simpa using e2
          obtain ⟨-, d2⟩ := g8 e2
          rw [e2, if_neg (show ¬ false = true by decide), if_pos (show (b2 false, t').1 = 0 from rfl), Option.bind_some, i0', if_pos (show 0 ≤ (nI (tell sg len 0 k a).2.1, m').1 from nI_pos' (by omega))]
          exact ih (k + 1) v4 t' m' (by omega) (by omega) (hpm.tr g6)
theorem c_leftOut {w : sW} {u : sP} {v : sS} {j1 j2 : sI} {m : sM} (I : Inv w u v j1 j2 m) (t : sT) (x : Int32) : ∃ r t' m', f_X10_leftOut w u t x = some (r, t') ∧ f_X11_leftOut m x = some (r, m') ∧ Inv w u v j1 j2 m' := by
  obtain ⟨⟨a, ha, hw, h0⟩, ⟨len, sg, hP⟩, hS, hI1, hI2⟩ := id I
  obtain ⟨r, t', m', g1, g2, g3, g4⟩ := ev_c ha hw h0 hP t
  have ho := oF_ge
  have hl := hP.1
  unfold f_X10_leftOut f_X11_leftOut
  rw [g1, g2, Option.bind_some, Option.bind_some]
  rcases g4 with ⟨rfl, g5, g6, a', tt, g7, g8, g9, -⟩ | ⟨g5, g6⟩
  · rw [if_pos (show ((0 : Int32), t').1 = 0 from rfl), if_pos (show 0 ≤ ((0 : Int32), m').1 by show (0 : Int32) ≤ 0; decide), f_X9_lowest, Option.bind_some]
    show ∃ r t'' m'', f_X10_leftOut_L28 w u oF x (W_lowest (T_wheel t')) 0 (nI 0) t' = _ ∧ f_X11_leftOut_L22 oF x (M_foot m') 0 (nI 0) m' = _ ∧ _
    rw [show W_lowest (T_wheel t') = nI (a_ft a') from g8.2.2.2.2.1, show M_foot m' = nI (a_ft a') from g9.2.2.2.1]
    obtain ⟨r, t2, m2, e1, e2, e3⟩ := ev_left ha hw h0 hP g5 g6 x (nI (a_ft a')) oF 0 0 t' m' (Nat.zero_le _) (by omega) g3
    exact ⟨r, t2, m2, e1, e2, I.p e3⟩
  · rw [if_neg (show ¬ (r, t').1 = 0 from g5), if_neg (show ¬ 0 ≤ (r, m').1 from g6)]
    exact ⟨_, _, _, rfl, rfl, I.p g3⟩
