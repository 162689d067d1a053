/-! the text: signs as numbers -/
/-- 1 gets in, 2 gets out, 3 pebbles, 4 none of them, 5 let go, 6 on, 7 back, 8 asked, 0 no sign of a text -/
def kd (s : Nat) : Nat := if 65 ≤ s ∧ s ≤ 72 then 1 else if 97 ≤ s ∧ s ≤ 104 then 2 else if 49 ≤ s ∧ s ≤ 57 then 3 else if s = 48 then 4 else if s = 94 then 5 else if s = 62 then 6 else if s = 60 then 7 else if s = 63 then 8 else 0
def b2 (b : Bool) : Int32 := if b then 1 else 0
def sgT (s : Nat) : Bool :=
  decide (f_X4_getsIn (nI s) = some (b2 (decide (kd s = 1)), ())) && decide (f_X4_getsOut (nI s) = some (b2 (decide (kd s = 2)), ())) &&
  decide (f_X4_isDigit (nI s) = some (b2 (decide (kd s = 3 ∨ kd s = 4)), ())) && decide (f_X4_isMotion (nI s) = some (b2 (decide (kd s = 5 ∨ kd s = 6 ∨ kd s = 7)), ())) &&
  decide (f_X11_in (nI s) 65 72 = some (b2 (decide (kd s = 1)), ())) && decide (f_X11_in (nI s) 97 104 = some (b2 (decide (kd s = 2)), ())) && decide (f_X11_in (nI s) 48 57 = some (b2 (decide (kd s = 3 ∨ kd s = 4)), ())) &&
  (decide (nI s = 94) == decide (kd s = 5)) && (decide (nI s = 62) == decide (kd s = 6)) && (decide (nI s = 60) == decide (kd s = 7)) && (decide (nI s = 63) == decide (kd s = 8)) && (decide (nI s = 48) == decide (kd s = 4))
theorem sg_tab : (List.range 128).all sgT = true := by decide +kernel
theorem sg_all {s : Nat} (h : s < 128) : f_X4_getsIn (nI s) = some (b2 (decide (kd s = 1)), ()) ∧ f_X4_getsOut (nI s) = some (b2 (decide (kd s = 2)), ()) ∧ f_X4_isDigit (nI s) = some (b2 (decide (kd s = 3 ∨ kd s = 4)), ()) ∧ f_X4_isMotion (nI s) = some (b2 (decide (kd s = 5 ∨ kd s = 6 ∨ kd s = 7)), ()) ∧
    f_X11_in (nI s) 65 72 = some (b2 (decide (kd s = 1)), ()) ∧ f_X11_in (nI s) 97 104 = some (b2 (decide (kd s = 2)), ()) ∧ f_X11_in (nI s) 48 57 = some (b2 (decide (kd s = 3 ∨ kd s = 4)), ()) ∧ (nI s = 94 ↔ kd s = 5) ∧ (nI s = 62 ↔ kd s = 6) ∧ (nI s = 60 ↔ kd s = 7) ∧ (nI s = 63 ↔ kd s = 8) ∧ (nI s = 48 ↔ kd s = 4) := by
  have q := List.all_eq_true.mp sg_tab s (List.mem_range.mpr h)
  simp only [sgT, Bool.and_eq_true, decide_eq_true_eq, beq_iff_eq, decide_eq_decide] at q
  obtain ⟨⟨⟨⟨⟨⟨⟨⟨⟨⟨⟨h1, h2⟩, h3⟩, h4⟩, h5⟩, h6⟩, h7⟩, h8⟩, h9⟩, h10⟩, h11⟩, h12⟩ := q
  exact ⟨h1, h2, h3, h4, h5, h6, h7, h8, h9, h10, h11, h12⟩
theorem kd8 {s : Nat} : kd s = 8 ↔ s = 63 := by
  constructor
  · intro h
    unfold kd at h
    repeat (first | omega | split at h)
  · intro h; rw [h]; decide
theorem b2_0 (b : Bool) : b2 b = 0 ↔ b = false := by cases b <;> decide
theorem b2_d {P : Prop} [Decidable P] : b2 (decide P) = 0 ↔ ¬ P := by
  rw [b2_0, decide_eq_false_iff_not]
/-- may the sign stand behind q asked ones -/
def okB (s q : Nat) : Bool := if s = 63 then decide (q < 3) else decide (kd s ≠ 0)
/-- the number of asked ones among the first n -/
def askN (sg : Nat → Nat) : Nat → Nat
  | 0 => 0
  | n + 1 => askN sg n + if sg n = 63 then 1 else 0
theorem askN_le (sg : Nat → Nat) : ∀ n, askN sg n ≤ n
  | 0 => Nat.le_refl 0
  | n + 1 => by
    have := askN_le sg n
    rw [askN]
    by_cases h : sg n = 63
    · rw [if_pos h]; omega
    · rw [if_neg h]; omega
/-- the pad on both sides: its length, its signs -/
def relP (u : sP) (m : sM) (len : Nat) (sg : Nat → Nat) : Prop := len ≤ 60 ∧ P_length u = nI len ∧ M_signs m = nI len ∧ P_asked u = nI (askN sg len) ∧ ∀ k, k < len → 33 ≤ sg k ∧ sg k ≤ 126 ∧ P_signs u k = nI (sg k) ∧ M_pad m k = nI (sg k)
theorem relP.p {u : sP} {m m' : sM} {len : Nat} {sg : Nat → Nat} (h : relP u m len sg) (p : pM m m') : relP u m' len sg := by
  obtain ⟨h1, h2, h3, h4, h5⟩ := h
  obtain ⟨-, -, -, -, -, -, -, a8, a9, -⟩ := p
  exact ⟨h1, h2, by rw [a8]; exact h3, h4, by rw [a9]; exact h5⟩
/-- the first sign that can not stand: (its place, there is one) -/
def flt (sg : Nat → Nat) : Nat → Nat → Nat × Bool
  | 0, i => (i, false)
  | k + 1, i => if okB (sg i) (askN sg i) = true then flt sg k (i + 1) else (i, true)
def fltI (sg : Nat → Nat) (k i : Nat) : Int32 := if (flt sg k i).2 = true then nI (flt sg k i).1 else -6
theorem p_sign {u : sP} {m : sM} {len : Nat} {sg : Nat → Nat} (h : relP u m len sg) {k : Nat} (hk : k < len) : f_X4_signAt u (nI k) = some (nI (sg k), ()) := by
  have h1 := h.1
  simp only [f_X4_signAt, at_in (P_signs u) (show k < 60 by omega) (by decide), Option.bind_some, (h.2.2.2.2 k hk).2.2.1]
theorem p_fault_L {u : sP} {m : sM} {len : Nat} {sg : Nat → Nat} (h : relP u m len sg) : ∀ (n i : Nat), i ≤ len → len - i < n → f_X4_firstFault_L4 u n (nI (askN sg i)) (nI i) = some (fltI sg (len - i) i, ()) := by
  have h1 := h.1
  intro n
  induction n with
  | zero => intro i _ q; omega
  | succ n ih =>
    intro i hi hn
    rw [f_X4_firstFault_L4, h.2.1]
    by_cases e : i = len
    · rw [if_pos (nI_le (by omega) (by omega)), e, Nat.sub_self]
      rfl
    · have hlt : i < len := by omega
      obtain ⟨s1, s2, -, -⟩ := h.2.2.2.2 i hlt
      obtain ⟨t1, t2, t3, t4, -, -, -, -, -, -, t11, -⟩ := sg_all (s := sg i) (by omega)
      have hq := askN_le sg i
      have hnx := ih (i + 1) hlt (by omega)
      rw [if_neg (nI_ge hlt (by omega)), p_sign h hlt, Option.bind_some]
      have good : okB (sg i) (askN sg i) = true → f_X4_firstFault_J70 u (f_X4_firstFault_L4 u n) (nI (askN sg i)) (nI i) (nI (sg i)) (1 : Int32) = some (fltI sg (len - i) i, ()) := by
        intro hg
        rw [f_X4_firstFault_J70, if_neg (show ¬ (1 : Int32) = 0 by decide)]
        have e1 : fltI sg (len - i) i = fltI sg (len - (i + 1)) (i + 1) := by
          unfold fltI
          rw [show len - i = (len - (i + 1)) + 1 by omega, flt, if_pos hg]
        rw [e1, ← hnx, askN]
        by_cases e3 : nI (sg i) = 63
        · rw [if_pos e3, if_pos (kd8.mp (t11.mp e3)), show nI (askN sg i) + (1 : Int32) = nI (askN sg i + 1) from nI_1 _, show nI i + (1 : Int32) = nI (i + 1) from nI_1 i]
        · rw [if_neg e3, if_neg (fun q => e3 (t11.mpr (kd8.mpr q))), Int32.add_zero, Nat.add_zero, show nI i + (1 : Int32) = nI (i + 1) from nI_1 i]
      have bad : ¬ okB (sg i) (askN sg i) = true → f_X4_firstFault_J70 u (f_X4_firstFault_L4 u n) (nI (askN sg i)) (nI i) (nI (sg i)) (0 : Int32) = some (fltI sg (len - i) i, ()) := by
        intro hg
        rw [f_X4_firstFault_J70, if_pos rfl]
        unfold fltI
        rw [show len - i = (len - (i + 1)) + 1 by omega, flt, if_neg hg]
        rfl
      show (if nI (sg i) = (63 : Int32) then _ else _) = _
      by_cases e3 : nI (sg i) = 63
      · have e4 : sg i = 63 := kd8.mp (t11.mp e3)
        rw [if_pos e3]
        by_cases e5 : askN sg i < 3
        · rw [if_neg (show ¬ (3 : Int32) ≤ nI (askN sg i) from nI_ge e5 (by decide))]
          exact good (by unfold okB; rw [if_pos e4]; exact decide_eq_true e5)
        · rw [if_pos (show (3 : Int32) ≤ nI (askN sg i) from nI_le (a := 3) (by omega) (by omega))]
          exact bad (by unfold okB; rw [if_pos e4]; exact fun q => e5 (of_decide_eq_true q))
      · have e4 : ¬ sg i = 63 := fun q => e3 (t11.mpr (kd8.mpr q))
        have hok : okB (sg i) (askN sg i) = true ↔ kd (sg i) ≠ 0 := by unfold okB; rw [if_neg e4, decide_eq_true_iff]
        have hk8 : kd (sg i) ≠ 8 := fun q => e4 (kd8.mp q)
        have hkd : kd (sg i) ≤ 8 := by unfold kd; repeat (first | omega | split)
        rw [if_neg e3, t1, Option.bind_some]
        show (if b2 (decide (kd (sg i) = 1)) = 0 then _ else _) = _
        by_cases c1 : kd (sg i) = 1
        · rw [if_neg (fun q => (b2_d.mp q) c1)]; exact good (hok.mpr (by omega))
        · rw [if_pos (b2_d.mpr c1), t2, Option.bind_some]
          show (if b2 (decide (kd (sg i) = 2)) = 0 then _ else _) = _
          by_cases c2 : kd (sg i) = 2
          · rw [if_neg (fun q => (b2_d.mp q) c2)]; exact good (hok.mpr (by omega))
          · rw [if_pos (b2_d.mpr c2), t3, Option.bind_some]
            show (if b2 (decide (kd (sg i) = 3 ∨ kd (sg i) = 4)) = 0 then _ else _) = _
            by_cases c3 : kd (sg i) = 3 ∨ kd (sg i) = 4
            · rw [if_neg (fun q => (b2_d.mp q) c3)]; exact good (hok.mpr (by omega))
            · rw [if_pos (b2_d.mpr c3), t4, Option.bind_some]
              show (if b2 (decide (kd (sg i) = 5 ∨ kd (sg i) = 6 ∨ kd (sg i) = 7)) = 0 then _ else _) = _
              by_cases c4 : kd (sg i) = 5 ∨ kd (sg i) = 6 ∨ kd (sg i) = 7
              · rw [if_neg (fun q => (b2_d.mp q) c4)]; exact good (hok.mpr (by omega))
              · rw [if_pos (b2_d.mpr c4)]; exact bad (fun q => hok.mp q (by omega))
theorem p_fault {u : sP} {m : sM} {len : Nat} {sg : Nat → Nat} (h : relP u m len sg) : f_X4_firstFault u = some (fltI sg len 0, ()) :=
  p_fault_L h oF 0 (Nat.zero_le _) (by have := oF_ge; have := h.1; omega)
theorem m_fault_L {u : sP} {m : sM} {len : Nat} {sg : Nat → Nat} (h : relP u m len sg) : ∀ (n i : Nat), i ≤ len → len - i < n → f_X11_faultOf_L4 m n (nI (askN sg i)) (nI i) = some (fltI sg (len - i) i, ()) := by
  have h1 := h.1
  intro n
  induction n with
  | zero => intro i _ q; omega
  | succ n ih =>
    intro i hi hn
    rw [f_X11_faultOf_L4, h.2.2.1]
    by_cases e : i = len
    · rw [if_pos (nI_le (by omega) (by omega)), e, Nat.sub_self]
      rfl
    · have hlt : i < len := by omega
      obtain ⟨s1, s2, -, s4⟩ := h.2.2.2.2 i hlt
      obtain ⟨-, -, -, -, t5, t6, t7, t8, t9, t10, t11, -⟩ := sg_all (s := sg i) (by omega)
      have hq := askN_le sg i
      have hnx := ih (i + 1) hlt (by omega)
      rw [if_neg (nI_ge hlt (by omega)), if_neg (nI_ok (show i < 60 by omega) (by decide)), nI_cl (show i < 2147483648 by omega), s4]
      have hgo : (if nI (sg i) = (63 : Int32) then f_X11_faultOf_J31 m (f_X11_faultOf_L4 m n) (nI i) (nI (sg i)) (nI (askN sg i)) (1 : Int32) else f_X11_faultOf_J31 m (f_X11_faultOf_L4 m n) (nI i) (nI (sg i)) (nI (askN sg i)) (0 : Int32)) = f_X11_faultOf_J31 m (f_X11_faultOf_L4 m n) (nI i) (nI (sg i)) (nI (askN sg (i + 1))) (0 : Int32) := by
        have j31 : ∀ x y x' y' : Int32, x + y = x' + y' → f_X11_faultOf_J31 m (f_X11_faultOf_L4 m n) (nI i) (nI (sg i)) x y = f_X11_faultOf_J31 m (f_X11_faultOf_L4 m n) (nI i) (nI (sg i)) x' y' := by
          intro x y x' y' q
          simp only [f_X11_faultOf_J31, q]
        rw [askN]
        by_cases e3 : nI (sg i) = 63
        · rw [if_pos e3, if_pos (kd8.mp (t11.mp e3))]
          exact j31 _ _ _ _ (by rw [Int32.add_zero]; exact nI_1 _)
        · rw [if_neg e3, if_neg (fun q => e3 (t11.mpr (kd8.mpr q)))]
          rfl
      rw [hgo]
      have good : okB (sg i) (askN sg i) = true → f_X11_faultOf_J100 m (f_X11_faultOf_L4 m n) (nI (askN sg (i + 1)) + 0) (nI i) (1 : Int32) = some (fltI sg (len - i) i, ()) := by
        intro hg
        rw [f_X11_faultOf_J100, if_neg (show ¬ (1 : Int32) = 0 by decide), Int32.add_zero, show nI i + (1 : Int32) = nI (i + 1) from nI_1 i, hnx]
        unfold fltI
        rw [show len - i = (len - (i + 1)) + 1 by omega, flt, if_pos hg]
      have bad : ¬ okB (sg i) (askN sg i) = true → f_X11_faultOf_J100 m (f_X11_faultOf_L4 m n) (nI (askN sg (i + 1)) + 0) (nI i) (0 : Int32) = some (fltI sg (len - i) i, ()) := by
        intro hg
        rw [f_X11_faultOf_J100, if_pos rfl]
        unfold fltI
        rw [show len - i = (len - (i + 1)) + 1 by omega, flt, if_neg hg]
        rfl
      have hok : sg i ≠ 63 → (okB (sg i) (askN sg i) = true ↔ kd (sg i) ≠ 0) := by intro e4; unfold okB; rw [if_neg e4, decide_eq_true_iff]
      have hkd : kd (sg i) ≤ 8 := by unfold kd; repeat (first | omega | split)
      have hn63 : kd (sg i) ≠ 8 → sg i ≠ 63 := fun q e => q (kd8.mpr e)
      rw [f_X11_faultOf_J31, t5, Option.bind_some]
      show (if b2 (decide (kd (sg i) = 1)) = 0 then _ else _) = _
      by_cases c1 : kd (sg i) = 1
      · rw [if_neg (fun q => (b2_d.mp q) c1)]; exact good ((hok (hn63 (by omega))).mpr (by omega))
      · rw [if_pos (b2_d.mpr c1), t6, Option.bind_some]
        show (if b2 (decide (kd (sg i) = 2)) = 0 then _ else _) = _
        by_cases c2 : kd (sg i) = 2
        · rw [if_neg (fun q => (b2_d.mp q) c2)]; exact good ((hok (hn63 (by omega))).mpr (by omega))
        · rw [if_pos (b2_d.mpr c2), t7, Option.bind_some]
          show (if b2 (decide (kd (sg i) = 3 ∨ kd (sg i) = 4)) = 0 then _ else _) = _
          by_cases c3 : kd (sg i) = 3 ∨ kd (sg i) = 4
          · rw [if_neg (fun q => (b2_d.mp q) c3)]; exact good ((hok (hn63 (by omega))).mpr (by omega))
          · rw [if_pos (b2_d.mpr c3)]
            by_cases c5 : kd (sg i) = 5
            · rw [if_pos (t8.mpr c5)]; exact good ((hok (hn63 (by omega))).mpr (by omega))
            · rw [if_neg (fun q => c5 (t8.mp q))]
              by_cases c7 : kd (sg i) = 7
              · rw [if_pos (t10.mpr c7)]; exact good ((hok (hn63 (by omega))).mpr (by omega))
              · rw [if_neg (fun q => c7 (t10.mp q))]
                by_cases c6 : kd (sg i) = 6
                · rw [if_pos (t9.mpr c6)]; exact good ((hok (hn63 (by omega))).mpr (by omega))
                · rw [if_neg (fun q => c6 (t9.mp q))]
                  by_cases c8 : kd (sg i) = 8
                  · have e4 : sg i = 63 := kd8.mp c8
                    have e6 : askN sg (i + 1) = askN sg i + 1 := by rw [askN, if_pos e4]
                    rw [if_pos (t11.mpr c8)]
                    by_cases e5 : askN sg i < 3
                    · rw [if_neg (show ¬ (4 : Int32) ≤ nI (askN sg (i + 1)) + 0 by rw [Int32.add_zero]; exact nI_ge (b := 4) (by omega) (by decide))]
                      exact good (by unfold okB; rw [if_pos e4]; exact decide_eq_true e5)
                    · rw [if_pos (show (4 : Int32) ≤ nI (askN sg (i + 1)) + 0 by rw [Int32.add_zero]; exact nI_le (a := 4) (by omega) (by omega))]
                      exact bad (by unfold okB; rw [if_pos e4]; exact fun q => e5 (of_decide_eq_true q))
                  · rw [if_neg (fun q => c8 (t11.mp q))]; exact bad (fun q => (hok (hn63 c8)).mp q (by omega))
theorem m_fault {u : sP} {m : sM} {len : Nat} {sg : Nat → Nat} (h : relP u m len sg) : f_X11_faultOf m = some (fltI sg len 0, ()) :=
  m_fault_L h oF 0 (Nat.zero_le _) (by have := oF_ge; have := h.1; omega)
theorem m_opens_L {u : sP} {m : sM} {len : Nat} {sg : Nat → Nat} (h : relP u m len sg) : ∀ (n i : Nat), i ≤ len → len - i < n → f_X11_opens_L4 m n (nI (askN sg i)) (nI i) = some (nI (askN sg len), ()) := by
  have h1 := h.1
  intro n
  induction n with
  | zero => intro i _ q; omega
  | succ n ih =>
    intro i hi hn
    rw [f_X11_opens_L4, h.2.2.1]
    by_cases e : i = len
    · rw [if_pos (nI_le (by omega) (by omega)), e]
    · have hlt : i < len := by omega
      obtain ⟨s1, s2, -, s4⟩ := h.2.2.2.2 i hlt
      obtain ⟨-, -, -, -, -, -, -, -, -, -, t11, -⟩ := sg_all (s := sg i) (by omega)
      have hnx := ih (i + 1) hlt (by omega)
      rw [askN] at hnx
      rw [if_neg (nI_ge hlt (by omega)), if_neg (nI_ok (show i < 60 by omega) (by decide)), nI_cl (show i < 2147483648 by omega), s4, show nI i + (1 : Int32) = nI (i + 1) from nI_1 i]
      by_cases e3 : nI (sg i) = 63
      · rw [if_pos (kd8.mp (t11.mp e3))] at hnx
        rw [if_pos e3, show nI (askN sg i) + (1 : Int32) = nI (askN sg i + 1) from nI_1 _]
        exact hnx
      · rw [if_neg (fun q => e3 (t11.mpr (kd8.mpr q)))] at hnx
        rw [if_neg e3, Int32.add_zero]
        exact hnx
theorem m_opens {u : sP} {m : sM} {len : Nat} {sg : Nat → Nat} (h : relP u m len sg) : f_X11_opens m = some (nI (askN sg len), ()) :=
  m_opens_L h oF 0 (Nat.zero_le _) (by have := oF_ge; have := h.1; omega)
theorem flt_i (sg : Nat → Nat) : ∀ k i, (flt sg k i).2 = true → i ≤ (flt sg k i).1 ∧ (flt sg k i).1 < i + k
  | 0, _, h => by cases h
  | k + 1, i, h => by
    rw [flt] at h ⊢
    by_cases c : okB (sg i) (askN sg i) = true
    · rw [if_pos c] at h ⊢
      have := flt_i sg k (i + 1) h
      omega
    · rw [if_neg c]; show i ≤ i ∧ i < i + (k + 1); omega
theorem flt_no (sg : Nat → Nat) : ∀ k i, (flt sg k i).2 = false → ∀ j, i ≤ j → j < i + k → okB (sg j) (askN sg j) = true
  | 0, _, _, j, h1, h2 => by omega
  | k + 1, i, h, j, h1, h2 => by
    rw [flt] at h
    by_cases c : okB (sg i) (askN sg i) = true
    · rw [if_pos c] at h
      by_cases e : j = i
      · rw [e]; exact c
      · exact flt_no sg k (i + 1) h j (by omega) (by omega)
    · rw [if_neg c] at h; cases h
theorem fltI_no {sg : Nat → Nat} {len : Nat} (hl : len ≤ 60) : fltI sg len 0 = -6 ↔ (flt sg len 0).2 = false := by
  unfold fltI
  by_cases c : (flt sg len 0).2 = true
  · have := flt_i sg len 0 c
    rw [if_pos c]
    constructor
    · intro h
      have h2 : (nI (flt sg len 0).1).toInt = -6 := by rw [h]; decide
      rw [nI_tI (by omega)] at h2
      omega
    · intro h; rw [h] at c; cases c
  · rw [if_neg c]; exact ⟨fun _ => by simpa using c, fun _ => rfl⟩
theorem fltI_neg {sg : Nat → Nat} {len : Nat} (hl : len ≤ 60) : fltI sg len 0 < 0 ↔ (flt sg len 0).2 = false := by
  unfold fltI
  by_cases c : (flt sg len 0).2 = true
  · have := flt_i sg len 0 c
    rw [if_pos c]
    constructor
    · intro h; exact absurd h (nI_pos (by omega))
    · intro h; rw [h] at c; cases c
  · rw [if_neg c]; exact ⟨fun _ => by simpa using c, fun _ => by decide⟩
/-- no fault: what its signs are -/
def clean (sg : Nat → Nat) (len : Nat) : Prop := (∀ j, j < len → kd (sg j) ≠ 0) ∧ askN sg len ≤ 3
theorem askN_3 (sg : Nat → Nat) : ∀ n, (∀ j, j < n → okB (sg j) (askN sg j) = true) → askN sg n ≤ 3
  | 0, _ => Nat.zero_le 3
  | n + 1, h => by
    have h1 := askN_3 sg n (fun j hj => h j (by omega))
    have h2 := h n (by omega)
    rw [askN]
    by_cases c : sg n = 63
    · rw [if_pos c]
      unfold okB at h2
      rw [if_pos c] at h2
      have := of_decide_eq_true h2
      omega
    · rw [if_neg c]; omega
theorem flt_clean {sg : Nat → Nat} {len : Nat} (h : (flt sg len 0).2 = false) : clean sg len := by
  have h1 := flt_no sg len 0 h
  refine ⟨fun j hj => ?_, askN_3 sg len (fun j hj => h1 j (Nat.zero_le _) (by omega))⟩
  have h2 := h1 j (Nat.zero_le _) (by omega)
  unfold okB at h2
  by_cases c : sg j = 63
  · rw [c]; decide
  · rw [if_neg c] at h2
    exact of_decide_eq_true h2
