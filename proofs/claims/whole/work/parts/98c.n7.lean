/-! down: moves on the wheel -/
def tk (a : aW) : Nat := if a_rd a (a_ft a) = 8 then 0 else 1
/-- whether the move can be: 0 to 7 gets in, 8 all stays, 9 who is there leaves -/
def cb (a : aW) (mv : Nat) : Bool := if mv = 8 then true else if mv = 9 then decide (a_rd a (a_ft a) ≠ 8) else decide (cr (a_rd a) mv = a_ft a ∨ cr (a_rd a) mv = 8)
def mkS (a : aW) (mv : Nat) : aW := a_seat a (a_ft a) (if mv < 8 then mv else if mv = 8 then a_rd a (a_ft a) else 8)
def mk (a : aW) (mv : Nat) : aW := a_foot (mkS a mv) (aLet (mkS a mv)).2
theorem mkS_8 (a : aW) : mkS a 8 = a := by
  unfold mkS
  rw [if_neg (by decide), if_pos rfl]
  show (a_wt a, un (a_rd a) (a_ft a) (a_rd a (a_ft a)), a_ld a, a_ft a, a_dg a) = a
  rw [un_id]
theorem mkS_ok {a : aW} (ha : okA a) {mv : Nat} (hc : cb a mv = true) (h10 : mv < 10) : okA (mkS a mv) := by
  by_cases h8 : mv = 8
  · rw [h8, mkS_8]; exact ha
  · unfold cb at hc
    unfold mkS
    rw [if_neg h8] at hc
    by_cases h9 : mv = 9
    · rw [if_neg (by omega), if_neg h8]; exact okA_un ha _
    · rw [if_neg h9] at hc
      have := of_decide_eq_true hc
      rw [if_pos (by omega)]
      exact okA_seat ha (by omega) (by omega)
theorem mk_ok {a : aW} (ha : okA a) {mv : Nat} (hc : cb a mv = true) (h10 : mv < 10) : okA (mk a mv) := okA_foot (mkS_ok ha hc h10) (aLet_lt (mkS_ok ha hc h10))
theorem w_canBe {u : sW} {a : aW} (h : relW u a) (ha : okA a) {mv : Nat} (h10 : mv < 10) : f_X3_canBe u (nI mv) = some (b2 (cb a mv), ()) := by
  rw [f_X3_canBe]
  unfold cb
  by_cases h8 : mv = 8
  · rw [if_pos (show nI mv = (8 : Int32) by rw [h8]; rfl), if_pos h8]; rfl
  · rw [if_neg (show ¬ nI mv = (8 : Int32) from fun q => h8 ((nI_eq (b := 8) (by omega) (by omega)).mp q)), if_neg h8]
    by_cases h9 : mv = 9
    · rw [if_pos (show nI mv = (9 : Int32) by rw [h9]; rfl), if_pos h9, w_isTaken h ha, Option.bind_some]
      by_cases c : a_rd a (a_ft a) = 8
      · rw [if_pos c, show decide (a_rd a (a_ft a) ≠ 8) = false from decide_eq_false (fun q => q c)]; rfl
      · rw [if_neg c, show decide (a_rd a (a_ft a) ≠ 8) = true from decide_eq_true c]; rfl
    · have hp : mv < 8 := by omega
      rw [if_neg (show ¬ nI mv = (9 : Int32) from fun q => h9 ((nI_eq (b := 9) (by omega) (by omega)).mp q)), if_neg h9, w_isLowest h ha hp, Option.bind_some]
      by_cases c : cr (a_rd a) mv = a_ft a
      · rw [if_pos c, i1, decide_eq_true (Or.inl c : cr (a_rd a) mv = a_ft a ∨ cr (a_rd a) mv = 8)]; rfl
      · rw [if_neg c, i0, w_isAboard h hp, Option.bind_some]
        by_cases c2 : cr (a_rd a) mv = 8
        · rw [if_pos c2, i0, decide_eq_true (Or.inr c2 : cr (a_rd a) mv = a_ft a ∨ cr (a_rd a) mv = 8)]; rfl
        · rw [if_neg c2, i1, decide_eq_false (fun q => q.elim c c2 : ¬ (cr (a_rd a) mv = a_ft a ∨ cr (a_rd a) mv = 8))]; rfl
theorem person_lt {mv : Nat} (h : mv < 8) : f_X10_isPerson (nI mv) = some (1, ()) := by
  rw [f_X10_isPerson, if_neg (nI_pos (by omega)), if_neg (show ¬ (8 : Int32) ≤ nI mv from nI_ge h (by decide))]
theorem person_ge {mv : Nat} (h : 8 ≤ mv) (h2 : mv < 2147483648) : f_X10_isPerson (nI mv) = some (0, ()) := by
  rw [f_X10_isPerson, if_neg (nI_pos (by omega)), if_pos (show (8 : Int32) ≤ nI mv from nI_le (a := 8) h (by omega))]
theorem w_make {u : sW} {a : aW} (h : relW u a) (ha : okA a) {mv : Nat} (h10 : mv < 10) (hc : cb a mv = true) : ∃ u', f_X3_make u (nI mv) = some u' ∧ relW u' (mk a mv) := by
  have hok := mkS_ok ha hc h10
  have j30 : ∀ u1 : sW, relW u1 (mkS a mv) → ∃ u', f_X3_make_J30 u1 = some u' ∧ relW u' (mk a mv) := by
    intro u1 h1
    obtain ⟨u', e1, e2⟩ := w_letGo h1 hok
    exact ⟨u', by rw [f_X3_make_J30, e1, Option.bind_some], e2⟩
  rw [f_X3_make]
  by_cases h8 : mv = 8
  · rw [if_pos (show nI mv = (8 : Int32) by rw [h8]; rfl), f_X3_make_J14, person_ge (by omega) (by omega), Option.bind_some, i0]
    exact j30 u (by rw [h8, mkS_8]; exact h)
  · obtain ⟨u1, e1, e2⟩ := w_unseat h ha ha.1
    rw [if_neg (show ¬ nI mv = (8 : Int32) from fun q => h8 ((nI_eq (b := 8) (by omega) (by omega)).mp q)), f_X9_lowest, Option.bind_some]
    show ∃ u', (f_X9_unseat u (W_lowest u)).bind _ = _ ∧ _
    rw [show W_lowest u = nI (a_ft a) from h.2.2.2.2.1, e1, Option.bind_some, f_X3_make_J14]
    by_cases hp : mv < 8
    · have ok1 := okA_un ha (a_ft a)
      have hc2 : cr (a_rd a) mv = a_ft a ∨ cr (a_rd a) mv = 8 := by
        unfold cb at hc
        rw [if_neg h8, if_neg (by omega)] at hc
        exact of_decide_eq_true hc
      have e3 : cr (un (a_rd a) (a_ft a) 8) mv = 8 := by
        rw [cr_un ha.2.2.2.2 ha.1 hp]
        by_cases q : mv = a_rd a (a_ft a)
        · rw [if_pos q]
        · rw [if_neg q]
          rcases hc2 with z | z
          · exact absurd ((cr_iff ha.2.2.2.2 hp ha.1).mp z).symm q
          · exact z
      obtain ⟨u2, e4, e5⟩ := w_seat e2 ok1 hp ha.1 (Or.inl e3) (Or.inl (un_s _ _ _))
      rw [person_lt hp, Option.bind_some, i1, f_X9_lowest, Option.bind_some]
      show ∃ u', (f_X9_seat u1 (nI mv) (W_lowest u1)).bind _ = _ ∧ _
      rw [show W_lowest u1 = nI (a_ft a) from e2.2.2.2.2.1, e4, Option.bind_some]
      refine j30 u2 ?_
      have : mkS a mv = a_seat (a_seat a (a_ft a) 8) (a_ft a) mv := by
        unfold mkS
        rw [if_pos hp]
        show (a_wt a, un (a_rd a) (a_ft a) mv, a_ld a, a_ft a, a_dg a) = (a_wt a, un (un (a_rd a) (a_ft a) 8) (a_ft a) mv, a_ld a, a_ft a, a_dg a)
        rw [un_un]
      rw [this]; exact e5
    · rw [person_ge (by omega) (by omega), Option.bind_some, i0]
      refine j30 u1 ?_
      have : mkS a mv = a_seat a (a_ft a) 8 := by
        unfold mkS
        rw [if_neg hp, if_neg h8]
      rw [this]; exact e2
theorem w_takeBack {u : sW} {a : aW} (ha : okA a) {q f : Nat} (h : relW u (a_foot (a_seat a (a_ft a) q) f)) (hok : okA (a_seat a (a_ft a) q)) : ∃ u', f_X9_takeBack u (nI (a_ft a)) (enc (a_rd a (a_ft a))) = some u' ∧ relW u' a := by
  have h8 := ha.1
  have hr8 := ha.2.2.2.2.1 _ h8
  have e0 : f_J9_floorMod_7cf53 (nI (a_ft a)) (8 : Int32) = some (nI (a_ft a), ()) := by
    have := flm8 (z := (a_ft a : Int)) (by omega) (by omega)
    rw [iI_nI, this]
    congr 3
    omega
  have h1 : relW (W_weights u, W_cars u, W_riders u, W_loads u, nI (a_ft a), W_friction u) (a_seat a (a_ft a) q) := ⟨h.1, h.2.1, h.2.2.1, h.2.2.2.1, rfl, h.2.2.2.2.2⟩
  obtain ⟨u1, e1, e2⟩ := w_unseat h1 hok ha.1
  have e2 : relW u1 (a_seat a (a_ft a) 8) := by
    have e : a_seat (a_seat a (a_ft a) q) (a_ft a) 8 = a_seat a (a_ft a) 8 := by
      show (a_wt a, un (un (a_rd a) (a_ft a) q) (a_ft a) 8, a_ld a, a_ft a, a_dg a) = _
      rw [un_un]
    rw [← e]; exact e2
  rw [f_X9_takeBack, e0, Option.bind_some]
  show ∃ u', (f_X9_unseat (W_weights u, W_cars u, W_riders u, W_loads u, nI (a_ft a), W_friction u) (nI (a_ft a))).bind _ = _ ∧ _
  rw [e1, Option.bind_some]
  by_cases c : a_rd a (a_ft a) = 8
  · rw [if_pos ((enc_no hr8).mpr c)]
    refine ⟨u1, rfl, ?_⟩
    have e : a_seat a (a_ft a) 8 = a := by
      show (a_wt a, un (a_rd a) (a_ft a) 8, a_ld a, a_ft a, a_dg a) = a
      rw [← c, un_id]
    rw [e] at e2; exact e2
  · have hlt : a_rd a (a_ft a) < 8 := by omega
    have e3 : cr (un (a_rd a) (a_ft a) 8) (a_rd a (a_ft a)) = 8 := by
      rw [cr_un ha.2.2.2.2 ha.1 hlt, if_pos rfl]
    obtain ⟨u2, e4, e5⟩ := w_seat e2 (okA_un ha _) hlt ha.1 (Or.inl e3) (Or.inl (un_s _ _ _))
    rw [if_neg (fun z => c ((enc_no hr8).mp z)), enc_lt hlt, e4, Option.bind_some]
    refine ⟨u2, rfl, ?_⟩
    have e : a_seat (a_seat a (a_ft a) 8) (a_ft a) (a_rd a (a_ft a)) = a := by
      show (a_wt a, un (un (a_rd a) (a_ft a) 8) (a_ft a) (a_rd a (a_ft a)), a_ld a, a_ft a, a_dg a) = a
      rw [un_un, un_id]
    rw [e] at e5; exact e5
/-! the least number for which something holds -/
def lst (Q : Nat → Bool) : Nat → Nat → Nat
  | 0, i => i
  | n + 1, i => if Q i = true then i else lst Q n (i + 1)
theorem lst_ge (Q : Nat → Bool) : ∀ n i, i ≤ lst Q n i ∧ lst Q n i ≤ i + n
  | 0, i => ⟨Nat.le_refl i, Nat.le_refl i⟩
  | n + 1, i => by
    rw [lst]
    by_cases c : Q i = true
    · rw [if_pos c]; omega
    · rw [if_neg c]; have := lst_ge Q n (i + 1); omega
theorem lst_no (Q : Nat → Bool) : ∀ n i j, i ≤ j → j < lst Q n i → Q j ≠ true
  | 0, i, j, h1, h2 => by rw [lst] at h2; omega
  | n + 1, i, j, h1, h2 => by
    rw [lst] at h2
    by_cases c : Q i = true
    · rw [if_pos c] at h2; omega
    · rw [if_neg c] at h2
      by_cases e : j = i
      · rw [e]; exact c
      · exact lst_no Q n (i + 1) j (by omega) h2
theorem lst_yes (Q : Nat → Bool) : ∀ n i, lst Q n i < i + n → Q (lst Q n i) = true
  | 0, i, h => by rw [lst] at h; omega
  | n + 1, i, h => by
    rw [lst] at h ⊢
    by_cases c : Q i = true
    · rw [if_pos c]; exact c
    · rw [if_neg c] at h ⊢
      exact lst_yes Q n (i + 1) (by omega)
theorem lst_le {Q : Nat → Bool} {n i j : Nat} (h1 : i ≤ j) (h2 : j < i + n) (h3 : Q j = true) : lst Q n i ≤ j := by
  rcases Nat.lt_or_ge j (lst Q n i) with h | h
  · exact absurd h3 (lst_no Q n i j h1 h)
  · exact h
/-- whether so many moves can bring the person down -/
def eB (p : Nat) : Nat → aW → Bool
  | 0, a => decide (cr (a_rd a) p = a_ft a)
  | k + 1, a => decide (lst (fun mv => cb a mv && eB p k (mk a mv)) 10 0 < 10)
def qB (p k : Nat) (a : aW) (mv : Nat) : Bool := cb a mv && eB p k (mk a mv)
def sm (p k : Nat) (a : aW) : Nat := lst (qB p k a) 10 0
theorem eB_s (p k : Nat) (a : aW) : eB p (k + 1) a = decide (sm p k a < 10) := rfl
def mvI (i : Nat) : Int32 := if i < 10 then nI i else -6
theorem mvI_lt {i : Nat} (h : i < 10) : mvI i = nI i := if_pos h
theorem mvI_no {i : Nat} : mvI i = -6 ↔ ¬ i < 10 := by
  by_cases h : i < 10
  · rw [mvI_lt h]
    refine ⟨fun z => ?_, fun q => absurd h q⟩
    have : (nI i).toInt = (-6 : Int32).toInt := by rw [z]
    rw [nI_toInt (by omega)] at this
    have h6 : (-6 : Int32).toInt = -6 := by decide
    omega
  · exact ⟨fun _ => h, fun _ => if_neg h⟩
theorem w_search_L {R : sW → Int32 → Int32 → Option (Int32 × sW)} {a : aW} (ha : okA a) {p : Nat} (hp : p < 8) {k : Nat} (hk : k < 3) (hR : 0 < k → ∀ (b : aW) (u : sW), okA b → relW u b → ∃ u', R u (nI p) (nI k) = some (mvI (sm p (k - 1) b), u') ∧ relW u' b) : ∀ (n i : Nat) (u : sW), i ≤ 10 → 10 - i < n → relW u a → ∃ u', f_X3_search_L15 R n (nI p) (nI (k + 1)) (nI (a_ft a)) (enc (a_rd a (a_ft a))) (nI i) u = some (mvI (lst (qB p k a) (10 - i) i), u') ∧ relW u' a := by
  intro n
  induction n with
  | zero => intro i u _ h; omega
  | succ n ih =>
    intro i u hi hn h
    rw [f_X3_search_L15]
    by_cases e : i = 10
    · subst e
      rw [if_pos (show (10 : Int32) ≤ nI 10 by decide)]
      exact ⟨u, rfl, h⟩
    · have hlt : i < 10 := by omega
      rw [if_neg (show ¬ (10 : Int32) ≤ nI i from nI_ge (b := 10) hlt (by decide)), w_canBe h ha hlt, Option.bind_some, show 10 - i = (10 - (i + 1)) + 1 by omega, lst, show nI i + (1 : Int32) = nI (i + 1) from nI_1 i]
      by_cases c : cb a i = true
      · rw [c, if_neg (show ¬ (b2 true, ()).1 = 0 by show ¬ b2 true = 0; decide)]
        obtain ⟨u1, e1, e2⟩ := w_make h ha hlt c
        have hok := mk_ok ha c hlt
        have j68 : ∀ (u2 : sW) (b : Bool), relW u2 (mk a i) → eB p k (mk a i) = b → ∃ u', f_X3_search_J68 R (f_X3_search_L15 R n) (nI p) (nI (k + 1)) (nI (a_ft a)) (enc (a_rd a (a_ft a))) (nI i) (b2 b) u2 = some (mvI (if qB p k a i = true then i else lst (qB p k a) (10 - (i + 1)) (i + 1)), u') ∧ relW u' a := by
          intro u2 b h2 hb
          obtain ⟨u3, e3, e4⟩ := w_takeBack ha h2 (mkS_ok ha c hlt)
          have hq : qB p k a i = b := by unfold qB; rw [c, hb]; rfl
          rw [f_X3_search_J68, e3, Option.bind_some, hq, show nI i + (1 : Int32) = nI (i + 1) from nI_1 i]
          cases b with
          | false =>
            rw [if_pos (show b2 false = 0 from rfl), if_neg (show ¬ false = true by decide)]
            exact ih (i + 1) u3 (by omega) (by omega) e4
          | true =>
            rw [if_neg (show ¬ b2 true = 0 by decide), if_pos rfl, mvI_lt hlt]
            exact ⟨u3, rfl, e4⟩
        rw [e1, Option.bind_some]
        by_cases c1 : 0 < k
        · rw [if_pos (show (1 : Int32) < nI (k + 1) from nI_lt (a := 1) (by omega) (by omega)), show nI (k + 1) - (1 : Int32) = nI k from nI_pred k]
          obtain ⟨u2, e3, e4⟩ := hR c1 _ u1 hok e2
          rw [e3, Option.bind_some]
          have ek : eB p k (mk a i) = decide (sm p (k - 1) (mk a i) < 10) := by
            rw [show k = (k - 1) + 1 by omega, eB_s]; rfl
          by_cases c2 : sm p (k - 1) (mk a i) < 10
          · rw [if_neg (show ¬ (mvI (sm p (k - 1) (mk a i)), u2).1 = -6 from fun q => (mvI_no.mp q) c2)]
            exact j68 u2 true e4 (ek.trans (decide_eq_true c2))
          · rw [if_pos (show (mvI (sm p (k - 1) (mk a i)), u2).1 = -6 from mvI_no.mpr c2)]
            exact j68 u2 false e4 (ek.trans (decide_eq_false c2))
        · have k0 : k = 0 := by omega
          rw [if_neg (show ¬ (1 : Int32) < nI (k + 1) from nI_nlt (a := 1) (by omega) (by decide)), w_isLowest e2 hok hp, Option.bind_some]
          by_cases c2 : cr (a_rd (mk a i)) p = a_ft (mk a i)
          · rw [if_pos c2]
            exact j68 u1 true e2 (by rw [k0]; exact decide_eq_true c2)
          · rw [if_neg c2]
            exact j68 u1 false e2 (by rw [k0]; exact decide_eq_false c2)
      · have c' : cb a i = false := by simpa using c
        have hq : qB p k a i = false := by unfold qB; rw [c']; rfl
        rw [c', if_pos (show (b2 false, ()).1 = 0 from rfl), hq, if_neg (show ¬ false = true by decide)]
        exact ih (i + 1) u (by omega) (by omega) h
theorem w_search {p : Nat} (hp : p < 8) : ∀ (D k : Nat) (a : aW) (u : sW), k < D → k < 3 → okA a → relW u a → ∃ u', f_X3_search D u (nI p) (nI (k + 1)) = some (mvI (sm p k a), u') ∧ relW u' a := by
  intro D
  induction D with
  | zero => intro k a u h; omega
  | succ D ih =>
    intro k a u hkD hk ha h
    have ho := oF_ge
    rw [f_X3_search, f_X9_lowest, Option.bind_some]
    show ∃ u', (f_X9_riderOf u (W_lowest u)).bind (fun z2 => f_X3_search_L15 (f_X3_search D) oF (nI p) (nI (k + 1)) (W_lowest u) z2.1 (0 : Int32) u) = _ ∧ _
    rw [show W_lowest u = nI (a_ft a) from h.2.2.2.2.1, w_riderOf h ha.1, Option.bind_some]
    refine w_search_L ha hp hk (fun h0 b u1 hb h1 => ?_) oF 0 u (by omega) (by omega) h
    have := ih (k - 1) b u1 (by omega) (by omega) hb h1
    rw [show k - 1 + 1 = k by omega] at this
    exact this
theorem w_first {p : Nat} (hp : p < 8) {k : Nat} (hk : k < 3) {a : aW} (ha : okA a) {u : sW} (h : relW u a) : ∃ u', f_X3_first u (nI p) (nI (k + 1)) = some (mvI (sm p k a), u') ∧ relW u' a := by
  obtain ⟨u', e1, e2⟩ := w_search hp 4 k a u (by omega) hk ha h
  refine ⟨u', ?_, e2⟩
  rw [f_X3_first, if_neg (show ¬ nI (k + 1) < (1 : Int32) from nI_nlt (b := 1) (by omega) (by omega)), if_pos (show nI (k + 1) ≤ (3 : Int32) from nI_le (b := 3) (by omega) (by omega)), e1, Option.bind_some]
