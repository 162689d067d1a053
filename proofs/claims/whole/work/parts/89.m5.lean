/-! telling a text -/
theorem kd_rng (s : Nat) : (kd s = 1 → 65 ≤ s ∧ s ≤ 72) ∧ (kd s = 2 → 97 ≤ s ∧ s ≤ 104) ∧ (kd s = 3 → 49 ≤ s ∧ s ≤ 57) ∧ (kd s = 4 → s = 48) ∧ kd s ≤ 8 := by
  refine ⟨?_, ?_, ?_, ?_, ?_⟩
  · intro h; unfold kd at h; repeat (first | omega | split at h)
  · intro h; unfold kd at h; repeat (first | omega | split at h)
  · intro h; unfold kd at h; repeat (first | omega | split at h)
  · intro h; unfold kd at h; repeat (first | omega | split at h)
  · unfold kd; repeat (first | omega | split)
/-- who is meant by a sign: p for an asked one -/
def whom (s p : Nat) : Nat := if kd s = 1 then s - 65 else if kd s = 2 then s - 97 else p
theorem whom_lt {s p : Nat} (hp : p < 8) : whom s p < 8 := by
  obtain ⟨h1, h2, -⟩ := kd_rng s
  unfold whom
  by_cases c1 : kd s = 1
  · rw [if_pos c1]; have := h1 c1; omega
  · rw [if_neg c1]
    by_cases c2 : kd s = 2
    · rw [if_pos c2]; have := h2 c2; omega
    · rw [if_neg c2]; exact hp
/-- why the event can not be (0: it can) -/
def evR (a : aW) (s p : Nat) : Nat :=
  if kd s = 1 ∨ kd s = 8 then (if cr (a_rd a) p = 8 then (if a_rd a (a_ft a) = 8 then 0 else 2) else 1)
  else if kd s = 2 then (if a_rd a (a_ft a) = p then 0 else 3)
  else if kd s = 3 then (if a_ld a (a_ft a) + (s - 48) ≤ 99 then 0 else 4) else 0
def evA (a : aW) (s p : Nat) : aW :=
  if kd s = 1 ∨ kd s = 8 then a_seat a (a_ft a) p
  else if kd s = 2 then a_seat a (a_ft a) 8
  else if kd s = 3 then a_load a (a_ft a) (a_ld a (a_ft a) + (s - 48))
  else if kd s = 4 then a_load a (a_ft a) 0
  else if kd s = 5 then a_foot a (aLet a).2
  else if kd s = 6 then a_foot a (tu (a_ft a) 1)
  else if kd s = 7 then a_foot a (tu (a_ft a) (-1)) else a
def evT (a : aW) (s : Nat) : Int := if kd s = 5 then (aLet a).1 else 0
theorem aLet_lt {a : aW} (ha : okA a) : (aLet a).2 < 8 := aGo_lt a _ 8 _ ha.1
theorem okA_load {a : aW} (ha : okA a) (c : Nat) {n : Nat} (hn : n ≤ 99) : okA (a_load a c n) := by
  refine ⟨ha.1, ha.2.1, ha.2.2.1, fun k hk => ?_, ha.2.2.2.2⟩
  show un (a_ld a) c n k ≤ 99
  by_cases e : k = c
  · rw [e, un_s]; exact hn
  · rw [un_n e]; exact ha.2.2.2.1 k hk
theorem okA_seat {a : aW} (ha : okA a) {c p : Nat} (hp : p < 8) (hn : cr (a_rd a) p = 8 ∨ cr (a_rd a) p = c) : okA (a_seat a c p) := ⟨ha.1, ha.2.1, ha.2.2.1, ha.2.2.2.1, okR_seat ha.2.2.2.2 hp hn⟩
theorem okA_un {a : aW} (ha : okA a) (c : Nat) : okA (a_seat a c 8) := ⟨ha.1, ha.2.1, ha.2.2.1, ha.2.2.2.1, okR_un ha.2.2.2.2 c⟩
theorem evA_ok {a : aW} (ha : okA a) {s p : Nat} (hp : p < 8) (hr : evR a s p = 0) : okA (evA a s p) := by
  unfold evR at hr
  unfold evA
  by_cases c1 : kd s = 1 ∨ kd s = 8
  · rw [if_pos c1] at hr ⊢
    by_cases e1 : cr (a_rd a) p = 8
    · exact okA_seat ha hp (Or.inl e1)
    · rw [if_neg e1] at hr; cases hr
  · rw [if_neg c1] at hr ⊢
    by_cases c2 : kd s = 2
    · rw [if_pos c2]; exact okA_un ha _
    · rw [if_neg c2] at hr ⊢
      by_cases c3 : kd s = 3
      · rw [if_pos c3] at hr ⊢
        by_cases e : a_ld a (a_ft a) + (s - 48) ≤ 99
        · exact okA_load ha _ e
        · rw [if_neg e] at hr; cases hr
      · rw [if_neg c3]
        by_cases c4 : kd s = 4
        · rw [if_pos c4]; exact okA_load ha _ (by omega)
        · rw [if_neg c4]
          by_cases c5 : kd s = 5
          · rw [if_pos c5]; exact okA_foot ha (aLet_lt ha)
          · rw [if_neg c5]
            by_cases c6 : kd s = 6
            · rw [if_pos c6]; exact okA_foot ha (tu_lt _ _)
            · rw [if_neg c6]
              by_cases c7 : kd s = 7
              · rw [if_pos c7]; exact okA_foot ha (tu_lt _ _)
              · rw [if_neg c7]; exact ha
/-- what stays in the telling beside its wheel and its turns -/
def keepT (t t' : sT) : Prop := T_filling t' = T_filling t ∧ T_asked t' = T_asked t ∧ T_failedEvent t' = T_failedEvent t ∧ T_reason t' = T_reason t
theorem t_letIn {t : sT} {a : aW} (h : relW (T_wheel t) a) (ha : okA a) {p : Nat} (hp : p < 8) : ∃ t', f_X7_letIn t (nI p) = some (nI (if cr (a_rd a) p = 8 then (if a_rd a (a_ft a) = 8 then 0 else 2) else 1), t') ∧ ((if cr (a_rd a) p = 8 then (if a_rd a (a_ft a) = 8 then 0 else 2) else 1) = 0 → relW (T_wheel t') (a_seat a (a_ft a) p)) ∧ T_turned t' = T_turned t ∧ keepT t t' ∧ T_askedBefore t' = T_askedBefore t := by
  rw [f_X7_letIn, w_isAboard h hp, Option.bind_some]
  by_cases e1 : cr (a_rd a) p = 8
  · rw [if_pos e1, if_pos e1, if_pos (show ((0 : Int32), ()).1 = 0 from rfl), w_isTaken h ha, Option.bind_some]
    by_cases e2 : a_rd a (a_ft a) = 8
    · rw [if_pos e2, if_pos e2, if_pos (show ((0 : Int32), ()).1 = 0 from rfl)]
      obtain ⟨u', h1, h2⟩ := w_seat h ha hp ha.1 (Or.inl e1) (Or.inl e2)
      refine ⟨(u', T_failedEvent t, T_reason t, T_turned t, T_filling t, T_asked t, T_askedBefore t), ?_, fun _ => h2, rfl, ⟨rfl, rfl, rfl, rfl⟩, rfl⟩
      show (f_X9_seat (T_wheel t) (nI p) (W_lowest (T_wheel t))).bind _ = _
      rw [show W_lowest (T_wheel t) = nI (a_ft a) from h.2.2.2.2.1, h1, Option.bind_some]
      rfl
    · rw [if_neg e2, if_neg e2, if_neg (show ¬ ((1 : Int32), ()).1 = 0 by decide)]
      exact ⟨t, rfl, fun q => absurd q (by decide), rfl, ⟨rfl, rfl, rfl, rfl⟩, rfl⟩
  · rw [if_neg e1, if_neg e1, if_neg (show ¬ ((1 : Int32), ()).1 = 0 by decide)]
    exact ⟨t, rfl, fun q => absurd q (by decide), rfl, ⟨rfl, rfl, rfl, rfl⟩, rfl⟩
theorem t_letOut {t : sT} {a : aW} (h : relW (T_wheel t) a) (ha : okA a) {p : Nat} (hp : p < 8) : ∃ t', f_X7_letOut t (nI p) = some (nI (if a_rd a (a_ft a) = p then 0 else 3), t') ∧ ((if a_rd a (a_ft a) = p then 0 else 3) = 0 → relW (T_wheel t') (a_seat a (a_ft a) 8)) ∧ T_turned t' = T_turned t ∧ keepT t t' ∧ T_askedBefore t' = T_askedBefore t := by
  have e0 := cr_iff ha.2.2.2.2 hp ha.1
  rw [f_X7_letOut, w_isLowest h ha hp, Option.bind_some]
  by_cases e1 : a_rd a (a_ft a) = p
  · rw [if_pos e1, if_pos (e0.mpr e1), if_neg (show ¬ ((1 : Int32), ()).1 = 0 by decide)]
    obtain ⟨u', h1, h2⟩ := w_unseat h ha ha.1
    refine ⟨(u', T_failedEvent t, T_reason t, T_turned t, T_filling t, T_asked t, T_askedBefore t), ?_, fun _ => h2, rfl, ⟨rfl, rfl, rfl, rfl⟩, rfl⟩
    show (f_X9_unseat (T_wheel t) (W_lowest (T_wheel t))).bind _ = _
    rw [show W_lowest (T_wheel t) = nI (a_ft a) from h.2.2.2.2.1, h1, Option.bind_some]
    rfl
  · rw [if_neg e1, if_neg (fun q => e1 (e0.mp q)), if_pos (show ((0 : Int32), ()).1 = 0 from rfl)]
    exact ⟨t, rfl, fun q => absurd q (by decide), rfl, ⟨rfl, rfl, rfl, rfl⟩, rfl⟩
theorem t_load {t : sT} {a : aW} (h : relW (T_wheel t) a) (ha : okA a) {d : Nat} (hd : d ≤ 9) : ∃ t', f_X7_load t (nI d) = some (nI (if d = 0 then 0 else if a_ld a (a_ft a) + d ≤ 99 then 0 else 4), t') ∧ ((if d = 0 then 0 else if a_ld a (a_ft a) + d ≤ 99 then 0 else 4) = 0 → relW (T_wheel t') (a_load a (a_ft a) (if d = 0 then 0 else a_ld a (a_ft a) + d))) ∧ T_turned t' = T_turned t ∧ keepT t t' ∧ T_askedBefore t' = T_askedBefore t := by
  have hl := ha.2.2.2.1 _ ha.1
  have go : ∀ n, n ≤ 120 → ∃ t', f_X7_load_J26 (nI (a_ft a)) (nI n) t = some (nI (if n ≤ 99 then 0 else 4), t') ∧ ((if n ≤ 99 then 0 else 4) = 0 → relW (T_wheel t') (a_load a (a_ft a) n)) ∧ T_turned t' = T_turned t ∧ keepT t t' ∧ T_askedBefore t' = T_askedBefore t := by
    intro n hn
    rw [f_X7_load_J26]
    by_cases e : n ≤ 99
    · rw [if_pos (show nI n ≤ (99 : Int32) from nI_le (b := 99) e (by decide)), if_pos e]
      obtain ⟨u', h1, h2⟩ := w_setLoad h ha.1 n
      refine ⟨(u', T_failedEvent t, T_reason t, T_turned t, T_filling t, T_asked t, T_askedBefore t), ?_, fun _ => h2, rfl, ⟨rfl, rfl, rfl, rfl⟩, rfl⟩
      rw [h1, Option.bind_some]
      rfl
    · rw [if_neg (show ¬ nI n ≤ (99 : Int32) from nI_ge (a := 99) (by omega) (by omega)), if_neg e]
      exact ⟨t, rfl, fun q => absurd q (by decide), rfl, ⟨rfl, rfl, rfl, rfl⟩, rfl⟩
  rw [f_X7_load]
  show ∃ t', (if nI d = 0 then f_X7_load_J26 (W_lowest (T_wheel t)) 0 t else (f_X9_loadOf (T_wheel t) (W_lowest (T_wheel t))).bind fun z3 => f_X7_load_J26 (W_lowest (T_wheel t)) (z3.1 + nI d) t) = _ ∧ _
  rw [show W_lowest (T_wheel t) = nI (a_ft a) from h.2.2.2.2.1]
  by_cases e : d = 0
  · rw [if_pos (show nI d = 0 by rw [e]; rfl), if_pos e, if_pos e]
    have := go 0 (by omega)
    exact this
  · rw [if_neg (show ¬ nI d = 0 from nI_ne0 (by omega) (by omega)), if_neg e, if_neg e, w_loadOf h ha.1, Option.bind_some]
    have := go (a_ld a (a_ft a) + d) (by omega)
    rw [show nI (a_ld a (a_ft a)) + nI d = nI (a_ld a (a_ft a) + d) from nI_add _ _]
    exact this
theorem t_happen {t : sT} {a : aW} (h : relW (T_wheel t) a) (ha : okA a) {s p : Nat} (hs : s < 128) (hk : kd s ≠ 0) (hp : p < 8) (h8 : kd s = 8 → f_X1_personAt (T_filling t) (T_askedBefore t) (T_asked t) = some (nI p, ())) :
    ∃ t', f_X7_happen t (nI s) = some (nI (evR a s (whom s p)), t') ∧ (evR a s (whom s p) = 0 → relW (T_wheel t') (evA a s (whom s p))) ∧ T_turned t' = T_turned t + iI (evT a s) ∧ keepT t t' ∧ T_askedBefore t' = T_askedBefore t + nI (if kd s = 8 then 1 else 0) := by
  obtain ⟨t1, t2, t3, t4, -, -, -, t8, t9, t10, t11, -⟩ := sg_all hs
  obtain ⟨r1, r2, r3, r4, r5⟩ := kd_rng s
  have i0 : ∀ x : Int32, x + iI 0 = x := fun x => by rw [show iI 0 = (0 : Int32) from rfl, Int32.add_zero]
  have n0 : ∀ x : Int32, x + nI 0 = x := fun x => by rw [show nI 0 = (0 : Int32) from rfl, Int32.add_zero]
  rw [f_X7_happen]
  by_cases c5 : kd s = 5
  · obtain ⟨u', g1, g2⟩ := w_letGo h ha
    have e1 : evR a s (whom s p) = 0 := by unfold evR; rw [if_neg (by omega), if_neg (by omega), if_neg (by omega)]
    have e2 : evA a s (whom s p) = a_foot a (aLet a).2 := by unfold evA; rw [if_neg (by omega), if_neg (by omega), if_neg (by omega), if_neg (by omega), if_pos c5]
    have e3 : evT a s = (aLet a).1 := if_pos c5
    rw [if_pos (t8.mpr c5), g1, Option.bind_some, e1, e2, e3, if_neg (show ¬ kd s = 8 by omega), n0]
    exact ⟨_, rfl, fun _ => g2, rfl, ⟨rfl, rfl, rfl, rfl⟩, rfl⟩
  · have e3 : evT a s = 0 := if_neg c5
    rw [if_neg (fun q => c5 (t8.mp q)), t4, Option.bind_some, e3, i0]
    show ∃ t', (if b2 (decide (kd s = 5 ∨ kd s = 6 ∨ kd s = 7)) = 0 then _ else _) = _ ∧ _
    by_cases cm : kd s = 5 ∨ kd s = 6 ∨ kd s = 7
    · have e1 : evR a s (whom s p) = 0 := by unfold evR; rw [if_neg (by omega), if_neg (by omega), if_neg (by omega)]
      have tn : ∀ b : Int, (b = 1 ∨ b = -1) → ∃ t', f_X7_happen_J46 (iI b) t = some (nI 0, t') ∧ relW (T_wheel t') (a_foot a (tu (a_ft a) b)) ∧ T_turned t' = T_turned t ∧ keepT t t' ∧ T_askedBefore t' = T_askedBefore t := by
        intro b hb
        obtain ⟨u', g1, g2⟩ := w_turn h ha (b := b) (by omega) (by omega)
        rw [f_X7_happen_J46, g1, Option.bind_some]
        exact ⟨_, rfl, g2, rfl, ⟨rfl, rfl, rfl, rfl⟩, rfl⟩
      rw [if_neg (fun q => (b2_d.mp q) cm), e1, if_neg (show ¬ kd s = 8 by omega), n0]
      by_cases c6 : kd s = 6
      · have e2 : evA a s (whom s p) = a_foot a (tu (a_ft a) 1) := by unfold evA; rw [if_neg (by omega), if_neg (by omega), if_neg (by omega), if_neg (by omega), if_neg c5, if_pos c6]
        rw [if_pos (t9.mpr c6), e2]
        obtain ⟨t', g1, g2, g3⟩ := tn 1 (Or.inl rfl)
        exact ⟨t', g1, fun _ => g2, g3⟩
      · have c7 : kd s = 7 := by omega
        have e2 : evA a s (whom s p) = a_foot a (tu (a_ft a) (-1)) := by unfold evA; rw [if_neg (by omega), if_neg (by omega), if_neg (by omega), if_neg (by omega), if_neg c5, if_neg c6, if_pos c7]
        rw [if_neg (fun q => c6 (t9.mp q)), e2]
        obtain ⟨t', g1, g2, g3⟩ := tn (-1) (Or.inr rfl)
        exact ⟨t', g1, fun _ => g2, g3⟩
    · rw [if_pos (b2_d.mpr cm), t3, Option.bind_some]
      show ∃ t', (if b2 (decide (kd s = 3 ∨ kd s = 4)) = 0 then _ else _) = _ ∧ _
      by_cases c34 : kd s = 3 ∨ kd s = 4
      · have hsr : 48 ≤ s ∧ s ≤ 57 := by
          rcases c34 with c | c
          · have := r3 c; omega
          · have := r4 c; omega
        rw [if_neg (fun q => (b2_d.mp q) c34), show nI s - (48 : Int32) = nI (s - 48) from pk_sub (b := 48) hsr.1, if_neg (show ¬ kd s = 8 by omega), n0]
        obtain ⟨t', g1, g2, g3⟩ := t_load h ha (d := s - 48) (by omega)
        rw [g1, Option.bind_some]
        have hd0 : s - 48 = 0 ↔ kd s = 4 := by
          constructor
          · intro q; rcases c34 with c | c
            · have := r3 c; omega
            · exact c
          · intro c; have := r4 c; omega
        have e1 : evR a s (whom s p) = (if s - 48 = 0 then 0 else if a_ld a (a_ft a) + (s - 48) ≤ 99 then 0 else 4) := by
          unfold evR
          rw [if_neg (by omega), if_neg (by omega)]
          by_cases c : kd s = 3
          · rw [if_pos c, if_neg (show ¬ s - 48 = 0 from fun q => by have := hd0.mp q; omega)]
          · rw [if_neg c, if_pos (hd0.mpr (by omega))]
        have e2 : evA a s (whom s p) = a_load a (a_ft a) (if s - 48 = 0 then 0 else a_ld a (a_ft a) + (s - 48)) := by
          unfold evA
          rw [if_neg (by omega), if_neg (by omega)]
          by_cases c : kd s = 3
          · rw [if_pos c, if_neg (show ¬ s - 48 = 0 from fun q => by have := hd0.mp q; omega)]
          · rw [if_neg c, if_pos (show kd s = 4 by omega), if_pos (hd0.mpr (by omega))]
        rw [e1, e2]
        exact ⟨t', rfl, g2, g3⟩
      · rw [if_pos (b2_d.mpr c34), t2, Option.bind_some]
        show ∃ t', (if b2 (decide (kd s = 2)) = 0 then _ else _) = _ ∧ _
        by_cases c2 : kd s = 2
        · have hsr := r2 c2
          have ew : whom s p = s - 97 := by unfold whom; rw [if_neg (by omega), if_pos c2]
          rw [if_neg (fun q => (b2_d.mp q) c2), show nI s - (97 : Int32) = nI (s - 97) from pk_sub (b := 97) hsr.1, if_neg (show ¬ kd s = 8 by omega), n0, ew]
          obtain ⟨t', g1, g2, g3⟩ := t_letOut h ha (p := s - 97) (by omega)
          rw [g1, Option.bind_some]
          have e1 : evR a s (s - 97) = (if a_rd a (a_ft a) = s - 97 then 0 else 3) := by unfold evR; rw [if_neg (by omega), if_pos c2]
          have e2 : evA a s (s - 97) = a_seat a (a_ft a) 8 := by unfold evA; rw [if_neg (by omega), if_pos c2]
          rw [e1, e2]
          exact ⟨t', rfl, g2, g3⟩
        · rw [if_pos (b2_d.mpr c2)]
          have c18 : kd s = 1 ∨ kd s = 8 := by omega
          have e1 : ∀ q, evR a s q = (if cr (a_rd a) q = 8 then (if a_rd a (a_ft a) = 8 then 0 else 2) else 1) := fun q => by unfold evR; rw [if_pos c18]
          have e2 : ∀ q, evA a s q = a_seat a (a_ft a) q := fun q => by unfold evA; rw [if_pos c18]
          by_cases c8 : kd s = 8
          · have ew : whom s p = p := by unfold whom; rw [if_neg (by omega), if_neg (by omega)]
            rw [if_pos (t11.mpr c8), h8 c8, Option.bind_some, if_pos c8, ew, e1, e2]
            obtain ⟨t', g1, g2, g3, g4, g5⟩ := t_letIn (t := (T_wheel t, T_failedEvent t, T_reason t, T_turned t, T_filling t, T_asked t, T_askedBefore t + (1 : Int32))) h ha hp
            show ∃ t', (f_X7_letIn (T_wheel t, T_failedEvent t, T_reason t, T_turned t, T_filling t, T_asked t, T_askedBefore t + (1 : Int32)) (nI p)).bind _ = _ ∧ _
            rw [g1, Option.bind_some]
            exact ⟨t', rfl, g2, g3, g4, g5⟩
          · have c1 : kd s = 1 := by omega
            have hsr := r1 c1
            have ew : whom s p = s - 65 := by unfold whom; rw [if_pos c1]
            rw [if_neg (fun q => c8 (t11.mp q)), show nI s - (65 : Int32) = nI (s - 65) from pk_sub (b := 65) hsr.1, if_neg c8, n0, ew, e1, e2]
            obtain ⟨t', g1, g2, g3⟩ := t_letIn h ha (p := s - 65) (by omega)
            rw [g1, Option.bind_some]
            exact ⟨t', rfl, g2, g3⟩
