/-! what the class's wheel does, in the words of aW -/
theorem w_copyFrom {o : sW} {a : aW} (h : relW o a) (u : sW) : ∃ u', f_X9_copyFrom u o = some u' ∧ relW u' a := by
  have e8 : (8 : Nat) < 2147483648 := by decide
  refine ⟨(va_cpy (W_weights o) (W_weights u) 0 0 8, va_cpy (W_cars o) (W_cars u) 0 0 8, va_cpy (W_riders o) (W_riders u) 0 0 8, va_cpy (W_loads o) (W_loads u) 0 0 8, W_lowest o, W_friction o), ?_, ?_⟩
  · simp only [f_X9_copyFrom, copy_n _ _ e8, Option.bind_some]
  · exact ⟨fun k hk => (cpy_at hk).trans (h.1 k hk), fun k hk => (cpy_at hk).trans (h.2.1 k hk), fun k hk => (cpy_at hk).trans (h.2.2.1 k hk), fun k hk => (cpy_at hk).trans (h.2.2.2.1 k hk), h.2.2.2.2.1, h.2.2.2.2.2⟩
theorem w_isAboard {u : sW} {a : aW} (h : relW u a) {p : Nat} (hp : p < 8) : f_X9_isAboard u (nI p) = some (if cr (a_rd a) p = 8 then 0 else 1, ()) := by
  simp only [f_X9_isAboard, at_in _ hp (by decide), Option.bind_some, h.2.1 p hp, enc_no (cr_le _ _)]
  by_cases e : cr (a_rd a) p = 8
  · rw [if_pos e, if_pos e]
  · rw [if_neg e, if_neg e]
theorem w_isLowest {u : sW} {a : aW} (h : relW u a) (ha : okA a) {p : Nat} (hp : p < 8) : f_X9_isLowest u (nI p) = some (if cr (a_rd a) p = a_ft a then 1 else 0, ()) := by
  have e1 : (enc (cr (a_rd a) p) = nI (a_ft a)) = (cr (a_rd a) p = a_ft a) := by
    rw [← enc_lt ha.1]
    exact propext (enc_inj (cr_le _ _) (Nat.le_of_lt ha.1))
  simp only [f_X9_isLowest, at_in _ hp (by decide), Option.bind_some, h.2.1 p hp, h.2.2.2.2.1, e1]
  by_cases e : cr (a_rd a) p = a_ft a
  · rw [if_pos e, if_pos e]
  · rw [if_neg e, if_neg e]
theorem w_isTaken {u : sW} {a : aW} (h : relW u a) (ha : okA a) : f_X9_isTaken u = some (if a_rd a (a_ft a) = 8 then 0 else 1, ()) := by
  simp only [f_X9_isTaken, h.2.2.2.2.1, at_in _ ha.1 (by decide), Option.bind_some, h.2.2.1 _ ha.1, enc_no (ha.2.2.2.2.1 _ ha.1)]
  by_cases e : a_rd a (a_ft a) = 8
  · rw [if_pos e, if_pos e]
  · rw [if_neg e, if_neg e]
theorem w_riderOf {u : sW} {a : aW} (h : relW u a) {c : Nat} (hc : c < 8) : f_X9_riderOf u (nI c) = some (enc (a_rd a c), ()) := by
  simp only [f_X9_riderOf, at_in _ hc (by decide), Option.bind_some, h.2.2.1 c hc]
theorem w_carOf {u : sW} {a : aW} (h : relW u a) {p : Nat} (hp : p < 8) : f_X9_carOf u (nI p) = some (enc (cr (a_rd a) p), ()) := by
  simp only [f_X9_carOf, at_in _ hp (by decide), Option.bind_some, h.2.1 p hp]
theorem w_loadOf {u : sW} {a : aW} (h : relW u a) {c : Nat} (hc : c < 8) : f_X9_loadOf u (nI c) = some (nI (a_ld a c), ()) := by
  simp only [f_X9_loadOf, at_in _ hc (by decide), Option.bind_some, h.2.2.2.1 c hc]
theorem w_weightOf {u : sW} {a : aW} (h : relW u a) {p : Nat} (hp : p < 8) : f_X9_weightOf u (nI p) = some (nI (a_wt a p), ()) := by
  simp only [f_X9_weightOf, at_in _ hp (by decide), Option.bind_some, h.1 p hp]
theorem upd_at (f : Fn) (c : Nat) (x : Int32) (k : Nat) : upd f c x k = if k = c then x else f k := by
  by_cases e : k = c
  · rw [e, pk_us, if_pos rfl]
  · rw [pk_un e, if_neg e]
abbrev a_seat (a : aW) (c p : Nat) : aW := (a_wt a, un (a_rd a) c p, a_ld a, a_ft a, a_dg a)
abbrev a_load (a : aW) (c n : Nat) : aW := (a_wt a, a_rd a, un (a_ld a) c n, a_ft a, a_dg a)
abbrev a_wgt (a : aW) (p n : Nat) : aW := (un (a_wt a) p n, a_rd a, a_ld a, a_ft a, a_dg a)
abbrev a_foot (a : aW) (f : Nat) : aW := (a_wt a, a_rd a, a_ld a, f, a_dg a)
theorem w_seat {u : sW} {a : aW} (h : relW u a) (ha : okA a) {p c : Nat} (hp : p < 8) (hc : c < 8) (hn : cr (a_rd a) p = 8 ∨ cr (a_rd a) p = c) (hd : a_rd a c = 8 ∨ a_rd a c = p) : ∃ u', f_X9_seat u (nI p) (nI c) = some u' ∧ relW u' (a_seat a c p) := by
  refine ⟨(W_weights u, upd (W_cars u) p (nI c), upd (W_riders u) c (nI p), W_loads u, W_lowest u, W_friction u), ?_, ?_⟩
  · simp only [f_X9_seat, put_in _ _ hp (show 8 < 2147483648 by decide), put_in _ _ hc (show 8 < 2147483648 by decide), Option.bind_some]
  · refine ⟨h.1, fun k hk => ?_, fun k hk => ?_, h.2.2.2.1, h.2.2.2.2.1, h.2.2.2.2.2⟩
    · show upd (W_cars u) p (nI c) k = enc (cr (un (a_rd a) c p) k)
      rw [upd_at, cr_seat ha.2.2.2.2 hc hp hn hd hk]
      by_cases e : k = p
      · rw [if_pos e, if_pos e, enc_lt hc]
      · rw [if_neg e, if_neg e]; exact h.2.1 k hk
    · show upd (W_riders u) c (nI p) k = enc (un (a_rd a) c p k)
      rw [upd_at]
      by_cases e : k = c
      · rw [if_pos e, e, un_s, enc_lt hp]
      · rw [if_neg e, un_n e]; exact h.2.2.1 k hk
theorem w_unseat {u : sW} {a : aW} (h : relW u a) (ha : okA a) {c : Nat} (hc : c < 8) : ∃ u', f_X9_unseat u (nI c) = some u' ∧ relW u' (a_seat a c 8) := by
  have e8 : (8 : Nat) < 2147483648 := by decide
  by_cases hr : a_rd a c < 8
  · refine ⟨(W_weights u, upd (W_cars u) (a_rd a c) (-6), upd (W_riders u) c (-6), W_loads u, W_lowest u, W_friction u), ?_, ?_⟩
    · simp only [f_X9_unseat, at_in _ hc e8, Option.bind_some, h.2.2.1 c hc, enc_lt hr, put_in _ _ hr e8, put_in _ _ hc e8]
    · refine ⟨h.1, fun k hk => ?_, fun k hk => ?_, h.2.2.2.1, h.2.2.2.2.1, h.2.2.2.2.2⟩
      · show upd (W_cars u) (a_rd a c) (-6) k = enc (cr (un (a_rd a) c 8) k)
        rw [upd_at, cr_un ha.2.2.2.2 hc hk]
        by_cases e : k = a_rd a c
        · rw [if_pos e, if_pos e]; rfl
        · rw [if_neg e, if_neg e]; exact h.2.1 k hk
      · show upd (W_riders u) c (-6) k = enc (un (a_rd a) c 8 k)
        rw [upd_at]
        by_cases e : k = c
        · rw [if_pos e, e, un_s]; rfl
        · rw [if_neg e, un_n e]; exact h.2.2.1 k hk
  · have hr8 : a_rd a c = 8 := by have := ha.2.2.2.2.1 c hc; omega
    refine ⟨(W_weights u, W_cars u, upd (W_riders u) c (-6), W_loads u, W_lowest u, W_friction u), ?_, ?_⟩
    · simp only [f_X9_unseat, at_in _ hc e8, Option.bind_some, h.2.2.1 c hc, enc_8 hr, put_neg (show (-6 : Int32) < 0 by decide), put_in _ _ hc e8]
    · have e0 : un (a_rd a) c 8 = a_rd a := by rw [← hr8]; exact un_id _ _
      refine ⟨h.1, fun k hk => ?_, fun k hk => ?_, h.2.2.2.1, h.2.2.2.2.1, h.2.2.2.2.2⟩
      · show W_cars u k = enc (cr (un (a_rd a) c 8) k)
        rw [e0]; exact h.2.1 k hk
      · show upd (W_riders u) c (-6) k = enc (un (a_rd a) c 8 k)
        rw [upd_at, e0]
        by_cases e : k = c
        · rw [if_pos e, e, enc_8 hr]
        · rw [if_neg e]; exact h.2.2.1 k hk
theorem w_setLoad {u : sW} {a : aW} (h : relW u a) {c : Nat} (hc : c < 8) (n : Nat) : ∃ u', f_X9_setLoad u (nI c) (nI n) = some u' ∧ relW u' (a_load a c n) := by
  refine ⟨(W_weights u, W_cars u, W_riders u, upd (W_loads u) c (nI n), W_lowest u, W_friction u), ?_, ?_⟩
  · simp only [f_X9_setLoad, put_in _ _ hc (show 8 < 2147483648 by decide), Option.bind_some]
  · refine ⟨h.1, h.2.1, h.2.2.1, fun k hk => ?_, h.2.2.2.2.1, h.2.2.2.2.2⟩
    show upd (W_loads u) c (nI n) k = nI (un (a_ld a) c n k)
    rw [upd_at]
    by_cases e : k = c
    · rw [if_pos e, e, un_s]
    · rw [if_neg e, un_n e]; exact h.2.2.2.1 k hk
theorem w_setWeight {u : sW} {a : aW} (h : relW u a) {p : Nat} (hp : p < 8) (n : Nat) : ∃ u', f_X9_setWeight u (nI p) (nI n) = some u' ∧ relW u' (a_wgt a p n) := by
  refine ⟨(upd (W_weights u) p (nI n), W_cars u, W_riders u, W_loads u, W_lowest u, W_friction u), ?_, ?_⟩
  · simp only [f_X9_setWeight, put_in _ _ hp (show 8 < 2147483648 by decide), Option.bind_some]
  · refine ⟨fun k hk => ?_, h.2.1, h.2.2.1, h.2.2.2.1, h.2.2.2.2.1, h.2.2.2.2.2⟩
    show upd (W_weights u) p (nI n) k = nI (un (a_wt a) p n k)
    rw [upd_at]
    by_cases e : k = p
    · rw [if_pos e, e, un_s]
    · rw [if_neg e, un_n e]; exact h.1 k hk
def tu (f : Nat) (b : Int) : Nat := (((f : Int) + b) % 8).toNat
theorem tu_lt (f : Nat) (b : Int) : tu f b < 8 := by unfold tu; omega
theorem w_turn {u : sW} {a : aW} (h : relW u a) (ha : okA a) {b : Int} (h1 : -30 ≤ b) (h2 : b ≤ 30) : ∃ u', f_X9_turn u (iI b) = some u' ∧ relW u' (a_foot a (tu (a_ft a) b)) := by
  have h8 := ha.1
  refine ⟨(W_weights u, W_cars u, W_riders u, W_loads u, nI (tu (a_ft a) b), W_friction u), ?_, h.1, h.2.1, h.2.2.1, h.2.2.2.1, rfl, h.2.2.2.2.2⟩
  simp only [f_X9_turn, h.2.2.2.2.1, iI_nI, iI_add, flm8 (z := (a_ft a : Int) + b) (by omega) (by omega), Option.bind_some]
  rfl
/-! pulls -/
def arI (k : Nat) : Int := (arms k).toInt
theorem arI_e (k : Nat) : arms k = iI (arI k) := (iI_self _).symm
theorem arI_v : arI 0 = 0 ∧ arI 1 = 7 ∧ arI 2 = 10 ∧ arI 3 = 7 ∧ arI 4 = 0 ∧ arI 5 = -7 ∧ arI 6 = -10 ∧ arI 7 = -7 := by decide
def rwt (a : aW) (c : Nat) : Int := if a_rd a c < 8 then (a_wt a (a_rd a c) : Int) else 0
def aPs (a : aW) (f : Nat) : Nat → Int
  | 0 => 0
  | n + 1 => aPs a f n + ((a_ld a n : Int) + rwt a n) * arI ((n + 8 - f) % 8)
def aP (a : aW) (f : Nat) : Int := aPs a f 8
theorem w_pull_L {u : sW} {a : aW} (h : relW u a) (ha : okA a) {f : Nat} (hf : f < 8) : ∀ (n c : Nat), c ≤ 8 → 8 - c < n → f_X9_pullAt_L4 u n (nI f) (iI (aPs a f c)) (nI c) = some (iI (aP a f), ()) := by
  have e8 : (8 : Nat) < 2147483648 := by decide
  intro n
  induction n with
  | zero => intro c _ q; omega
  | succ n ih =>
    intro c hc hn
    rw [f_X9_pullAt_L4]
    by_cases e : c = 8
    · rw [e, if_pos (show (8 : Int32) ≤ nI 8 by decide)]
      rfl
    · have hlt : c < 8 := by omega
      have key : ∀ x : Int, x = (a_ld a c : Int) + rwt a c → f_X9_pullAt_J48 u (f_X9_pullAt_L4 u n) (nI f) (iI (aPs a f c)) (nI c) (iI x) (0 : Int32) = some (iI (aP a f), ()) := by
        intro x hx
        have hz : (((c : Int) - (f : Int)) % 8).toNat = (c + 8 - f) % 8 := by omega
        simp only [f_X9_pullAt_J48]
        rw [iI_nI c, iI_nI f, iI_sub, flm8 (by omega) (by omega), hz, Option.bind_some, atT_in (Nat.mod_lt _ (by decide)), Option.bind_some]
        rw [show (0 : Int32) = iI 0 from rfl, show (1 : Int32) = iI 1 from rfl, arI_e, iI_add, iI_mul, iI_add, iI_add]
        have := ih (c + 1) hlt (by omega)
        rw [iI_nI f, iI_nI (c + 1), aPs] at this
        rw [hx, Int.add_zero]
        exact this
      rw [if_neg (show ¬ (8 : Int32) ≤ nI c from nI_ge hlt e8), at_in _ hlt e8, Option.bind_some, at_in _ hlt e8, Option.bind_some, h.2.2.1 c hlt, h.2.2.2.1 c hlt]
      by_cases hr : a_rd a c < 8
      · rw [if_neg (show ¬ (enc (a_rd a c), ()).1 = (-6 : Int32) from fun q => by have := (enc_no (Nat.le_of_lt hr)).mp q; omega)]
        show (f_X10_at 8 (W_weights u) (enc (a_rd a c))).bind _ = _
        rw [enc_lt hr, at_in _ hr e8, Option.bind_some, h.1 _ hr]
        have := key _ rfl
        simp only [f_X9_pullAt_J48] at this ⊢
        rw [← this]
        rw [iI_nI (a_ld a c), iI_nI (a_wt a (a_rd a c)), iI_add, show (0 : Int32) = iI 0 from rfl, iI_add, rwt, if_pos hr, Int.add_zero]
      · have hr8 : enc (a_rd a c) = -6 := enc_8 hr
        rw [if_pos (show (enc (a_rd a c), ()).1 = (-6 : Int32) from hr8)]
        have := key (a_ld a c : Int) (by rw [rwt, if_neg hr, Int.add_zero])
        rw [iI_nI (a_ld a c)]
        exact this
theorem w_pullAt {u : sW} {a : aW} (h : relW u a) (ha : okA a) {f : Nat} (hf : f < 8) : f_X9_pullAt u (nI f) = some (iI (aP a f), ()) := by
  have := w_pull_L h ha hf oF 0 (Nat.zero_le _) (by have := oF_ge; omega)
  exact this
theorem arI_bd (k : Nat) : -10 ≤ arI (k % 8) ∧ arI (k % 8) ≤ 10 := by
  have h := Nat.mod_lt k (show 8 > 0 by decide)
  obtain ⟨h0, h1, h2, h3, h4, h5, h6, h7⟩ := arI_v
  generalize k % 8 = j at h
  rcases (show j = 0 ∨ j = 1 ∨ j = 2 ∨ j = 3 ∨ j = 4 ∨ j = 5 ∨ j = 6 ∨ j = 7 by omega) with rfl | rfl | rfl | rfl | rfl | rfl | rfl | rfl <;> omega
theorem mul_bd {x y : Int} (h1 : 0 ≤ x) (h2 : x ≤ 198) (h3 : -10 ≤ y) (h4 : y ≤ 10) : -1980 ≤ x * y ∧ x * y ≤ 1980 := by
  constructor
  · have := Int.mul_le_mul_of_nonneg_left h3 h1
    omega
  · have := Int.mul_le_mul_of_nonneg_left h4 h1
    omega
theorem rwt_bd {a : aW} (ha : okA a) {c : Nat} (hc : c < 8) : 0 ≤ rwt a c ∧ rwt a c ≤ 99 := by
  unfold rwt
  by_cases h : a_rd a c < 8
  · rw [if_pos h]; have := ha.2.2.1 _ h; omega
  · rw [if_neg h]; omega
theorem aPs_bd {a : aW} (ha : okA a) (f : Nat) : ∀ n : Nat, n ≤ 8 → -(1980 * (n : Int)) ≤ aPs a f n ∧ aPs a f n ≤ 1980 * (n : Int)
  | 0, _ => ⟨by simp [aPs], by simp [aPs]⟩
  | n + 1, h => by
    obtain ⟨h1, h2⟩ := aPs_bd ha f n (by omega)
    have h3 := rwt_bd ha (c := n) (by omega)
    have h4 := ha.2.2.2.1 n (by omega)
    have h5 := arI_bd (n + 8 - f)
    have h6 := mul_bd (x := (a_ld a n : Int) + rwt a n) (y := arI ((n + 8 - f) % 8)) (by omega) (by omega) h5.1 h5.2
    rw [aPs]
    omega
theorem aP_bd {a : aW} (ha : okA a) (f : Nat) : -15840 ≤ aP a f ∧ aP a f ≤ 15840 := by
  have := aPs_bd ha f 8 (Nat.le_refl 8)
  unfold aP
  omega
def wy (d : Nat) (z : Int) : Int := if (d : Int) < z then 1 else if z < -(d : Int) then -1 else 0
theorem w_wayOf {u : sW} {a : aW} (h : relW u a) (ha : okA a) {z : Int} (h1 : -100000 ≤ z) (h2 : z ≤ 100000) : f_X9_wayOf u (iI z) = some (iI (wy (a_dg a) z), ()) := by
  have hd := ha.2.1
  unfold f_X9_wayOf wy
  rw [h.2.2.2.2.2, iI_nI, iI_neg]
  by_cases c1 : (a_dg a : Int) < z
  · rw [if_neg (fun q => by rw [iI_le (by omega) (by omega) (by omega) (by omega)] at q; omega), if_pos c1]; rfl
  · rw [if_pos ((iI_le (by omega) (by omega) (by omega) (by omega)).mpr (by omega)), if_neg c1]
    by_cases c2 : z < -(a_dg a : Int)
    · rw [if_neg (fun q => by rw [iI_le (by omega) (by omega) (by omega) (by omega)] at q; omega), if_pos c2]; rfl
    · rw [if_pos ((iI_le (by omega) (by omega) (by omega) (by omega)).mpr (by omega)), if_neg c2]; rfl
/-! let go -/
def aGo (a : aW) (w : Int) : Nat → Nat → Int × Nat
  | 0, f => (0, f)
  | n + 1, f => if w ≠ 0 ∧ wy (a_dg a) (aP a f) = w then ((aGo a w n (tu f w)).1 + w, (aGo a w n (tu f w)).2) else (0, f)
def aLet (a : aW) : Int × Nat := aGo a (wy (a_dg a) (aP a (a_ft a))) 8 (a_ft a)
theorem aPs_foot (a : aW) (g f : Nat) : ∀ n, aPs (a_foot a g) f n = aPs a f n
  | 0 => rfl
  | n + 1 => by rw [aPs, aPs, aPs_foot a g f n]; rfl
theorem aP_foot (a : aW) (g f : Nat) : aP (a_foot a g) f = aP a f := aPs_foot a g f 8
theorem wy_cases (d : Nat) (z : Int) : wy d z = 1 ∨ wy d z = -1 ∨ wy d z = 0 := by
  unfold wy
  by_cases h : (d : Int) < z
  · rw [if_pos h]; exact Or.inl rfl
  · rw [if_neg h]
    by_cases h2 : z < -(d : Int)
    · rw [if_pos h2]; exact Or.inr (Or.inl rfl)
    · rw [if_neg h2]; exact Or.inr (Or.inr rfl)
theorem okA_foot {a : aW} (ha : okA a) {f : Nat} (hf : f < 8) : okA (a_foot a f) := ⟨hf, ha.2⟩
theorem aGo_lt (a : aW) (w : Int) : ∀ (n f : Nat), f < 8 → (aGo a w n f).2 < 8
  | 0, _, h => h
  | n + 1, f, h => by
    rw [aGo]
    by_cases c : w ≠ 0 ∧ wy (a_dg a) (aP a f) = w
    · rw [if_pos c]; exact aGo_lt a w n _ (tu_lt _ _)
    · rw [if_neg c]; exact h
theorem w_go_L {a : aW} (ha : okA a) {w : Int} (hw : w = 1 ∨ w = -1 ∨ w = 0) : ∀ (n k f : Nat) (t : Int) (u : sW), k ≤ 8 → 8 - k < n → f < 8 → relW u (a_foot a f) → ∃ u', f_X9_letGo_L20 n (iI w) (iI (wy (a_dg a) (aP a f))) (iI t) (nI k) u = some (iI (t + (aGo a w (8 - k) f).1), u') ∧ relW u' (a_foot a (aGo a w (8 - k) f).2) := by
  intro n
  induction n with
  | zero => intro k f t u _ h; omega
  | succ n ih =>
    intro k f t u hk hn hf h
    rw [f_X9_letGo_L20]
    have hc := wy_cases (a_dg a) (aP a f)
    by_cases e : k = 8
    · subst e
      rw [if_pos (show (8 : Int32) ≤ nI 8 by decide)]
      refine ⟨u, ?_, h⟩
      show _ = some (iI (t + 0), u)
      rw [Int.add_zero]
    · have hlt : k < 8 := by omega
      rw [if_neg (show ¬ (8 : Int32) ≤ nI k from nI_ge hlt (by decide))]
      rw [show 8 - k = (8 - (k + 1)) + 1 by omega, aGo]
      by_cases e0 : wy (a_dg a) (aP a f) = 0
      · rw [e0, if_pos (show iI 0 = (0 : Int32) from rfl)]
        refine ⟨u, ?_, ?_⟩
        · rw [if_neg (show ¬ (w ≠ 0 ∧ (0 : Int) = w) by omega), Int.add_zero]
        · rw [if_neg (show ¬ (w ≠ 0 ∧ (0 : Int) = w) by omega)]; exact h
      · rw [if_neg (show ¬ iI (wy (a_dg a) (aP a f)) = (0 : Int32) from fun q => e0 ((iI_eq (by omega) (by omega) (by omega) (by omega)).mp q))]
        by_cases e1 : wy (a_dg a) (aP a f) = w
        · rw [e1, if_pos rfl, if_pos (show w ≠ 0 ∧ w = w from ⟨by omega, rfl⟩)]
          obtain ⟨u1, h1, h2⟩ := w_turn h (okA_foot ha hf) (b := w) (by omega) (by omega)
          have h2 : relW u1 (a_foot a (tu f w)) := h2
          have hok := okA_foot ha (tu_lt f w)
          have hp := w_pullAt h2 hok (tu_lt f w)
          rw [aP_foot] at hp
          have hb := aP_bd ha (tu f w)
          have hy := w_wayOf h2 hok (z := aP a (tu f w)) (by omega) (by omega)
          obtain ⟨u2, h3, h4⟩ := ih (k + 1) (tu f w) (t + w) u1 (by omega) (by omega) (tu_lt _ _) h2
          refine ⟨u2, ?_, h4⟩
          rw [h1, Option.bind_some, h2.2.2.2.2.1, hp, Option.bind_some]
          show (f_X9_wayOf u1 (iI (aP a (tu f w)))).bind _ = _
          rw [hy, Option.bind_some]
          show f_X9_letGo_L20 n (iI w) (iI (wy (a_dg a) (aP a (tu f w)))) (iI t + iI w) (nI k + 1) u1 = _
          rw [iI_add, show nI k + (1 : Int32) = nI (k + 1) from nI_1 k, h3]
          congr 3
          omega
        · rw [if_neg (fun q => e1 ((iI_eq (by omega) (by omega) (by omega) (by omega)).mp q)), if_neg (fun q => e1 q.2)]
          refine ⟨u, ?_, h⟩
          show _ = some (iI (t + 0), u)
          rw [Int.add_zero]
theorem w_letGo_a {u : sW} {a : aW} (h : relW u a) (ha : okA a) : f_X9_letGo u = f_X9_letGo_L20 oF (iI (wy (a_dg a) (aP a (a_ft a)))) (iI (wy (a_dg a) (aP a (a_ft a)))) (iI 0) (nI 0) u := by
  have hb := aP_bd ha (a_ft a)
  have hp := w_pullAt h ha ha.1
  have hy := w_wayOf h ha (z := aP a (a_ft a)) (by omega) (by omega)
  unfold f_X9_letGo
  rw [show iI 0 = (0 : Int32) from rfl, show nI 0 = (0 : Int32) from rfl]
  generalize oF = N
  rw [show W_lowest u = nI (a_ft a) from h.2.2.2.2.1, hp, Option.bind_some]
  show (f_X9_wayOf u (iI (aP a (a_ft a)))).bind _ = _
  rw [hy, Option.bind_some]
theorem w_letGo {u : sW} {a : aW} (h : relW u a) (ha : okA a) : ∃ u', f_X9_letGo u = some (iI (aLet a).1, u') ∧ relW u' (a_foot a (aLet a).2) := by
  rw [w_letGo_a h ha]
  have ho := oF_ge
  generalize oF = N at ho ⊢
  obtain ⟨u', h1, h2⟩ := w_go_L ha (wy_cases (a_dg a) (aP a (a_ft a))) N 0 (a_ft a) 0 u (Nat.zero_le _) (by omega) ha.1 h
  rw [Int.zero_add] at h1
  exact ⟨u', h1, h2⟩
/-! the wheel does not turn for ever -/
theorem aP_zero (a : aW) : aP a 0 + aP a 1 + aP a 2 + aP a 3 + aP a 4 + aP a 5 + aP a 6 + aP a 7 = 0 := by
  obtain ⟨h0, h1, h2, h3, h4, h5, h6, h7⟩ := arI_v
  simp only [aP, aPs, Nat.reduceAdd, Nat.reduceSub, Nat.reduceMod, h0, h1, h2, h3, h4, h5, h6, h7]
  omega
def itr (w : Int) : Nat → Nat → Nat
  | 0, f => f
  | j + 1, f => itr w j (tu f w)
theorem aGo_stops (a : aW) {w : Int} (hw : w = 1 ∨ w = -1) {f : Nat} (hf : f < 8) : ∃ j, j ≤ 8 ∧ wy (a_dg a) (aP a (itr w j f)) ≠ w := by
  apply Classical.byContradiction
  intro hn
  have h : ∀ j, j ≤ 8 → wy (a_dg a) (aP a (itr w j f)) = w := fun j hj => Classical.byContradiction fun q => hn ⟨j, hj, q⟩
  have hz := aP_zero a
  have key : ∀ z : Int, wy (a_dg a) z = 1 → 0 < z := by
    intro z hz
    unfold wy at hz
    by_cases h : (a_dg a : Int) < z
    · omega
    · rw [if_neg h] at hz
      by_cases h2 : z < -(a_dg a : Int)
      · rw [if_pos h2] at hz; omega
      · rw [if_neg h2] at hz; omega
  have key2 : ∀ z : Int, wy (a_dg a) z = -1 → z < 0 := by
    intro z hz
    unfold wy at hz
    by_cases h : (a_dg a : Int) < z
    · rw [if_pos h] at hz; omega
    · rw [if_neg h] at hz
      by_cases h2 : z < -(a_dg a : Int)
      · omega
      · rw [if_neg h2] at hz; omega
  have all : ∀ g, g < 8 → ∃ j, j ≤ 8 ∧ itr w j f = g := by
    rcases hw with rfl | rfl
    · intro g hg
      refine ⟨(g + 8 - f) % 8, by omega, ?_⟩
      rcases (show f = 0 ∨ f = 1 ∨ f = 2 ∨ f = 3 ∨ f = 4 ∨ f = 5 ∨ f = 6 ∨ f = 7 by omega) with rfl | rfl | rfl | rfl | rfl | rfl | rfl | rfl <;> rcases (show g = 0 ∨ g = 1 ∨ g = 2 ∨ g = 3 ∨ g = 4 ∨ g = 5 ∨ g = 6 ∨ g = 7 by omega) with rfl | rfl | rfl | rfl | rfl | rfl | rfl | rfl <;> decide
    · intro g hg
      refine ⟨(f + 8 - g) % 8, by omega, ?_⟩
      rcases (show f = 0 ∨ f = 1 ∨ f = 2 ∨ f = 3 ∨ f = 4 ∨ f = 5 ∨ f = 6 ∨ f = 7 by omega) with rfl | rfl | rfl | rfl | rfl | rfl | rfl | rfl <;> rcases (show g = 0 ∨ g = 1 ∨ g = 2 ∨ g = 3 ∨ g = 4 ∨ g = 5 ∨ g = 6 ∨ g = 7 by omega) with rfl | rfl | rfl | rfl | rfl | rfl | rfl | rfl <;> decide
  have ev : ∀ g, g < 8 → wy (a_dg a) (aP a g) = w := by
    intro g hg
    obtain ⟨j, hj, e⟩ := all g hg
    rw [← e]; exact h j hj
  rcases hw with rfl | rfl
  · have q0 := key _ (ev 0 (by decide)); have q1 := key _ (ev 1 (by decide)); have q2 := key _ (ev 2 (by decide)); have q3 := key _ (ev 3 (by decide))
    have q4 := key _ (ev 4 (by decide)); have q5 := key _ (ev 5 (by decide)); have q6 := key _ (ev 6 (by decide)); have q7 := key _ (ev 7 (by decide))
    omega
  · have q0 := key2 _ (ev 0 (by decide)); have q1 := key2 _ (ev 1 (by decide)); have q2 := key2 _ (ev 2 (by decide)); have q3 := key2 _ (ev 3 (by decide))
    have q4 := key2 _ (ev 4 (by decide)); have q5 := key2 _ (ev 5 (by decide)); have q6 := key2 _ (ev 6 (by decide)); have q7 := key2 _ (ev 7 (by decide))
    omega
