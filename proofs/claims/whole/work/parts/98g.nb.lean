/-! chance: the reference's codes -/
def wys (a : aW) : Nat := if a_rd a (a_ft a) = 8 ∧ ct (fre a) 8 0 ≠ 0 then ct (fre a) 8 0 else 1
def fct (a : aW) (k : Nat) : Nat := if k < wys a then 840 / wys a else 0
def nxS (a : aW) (k : Nat) : aW := if k < wys a ∧ a_rd a (a_ft a) = 8 ∧ ct (fre a) 8 0 ≠ 0 then a_seat a (a_ft a) (ow (fre a) 8 0 k) else a
def vB (p : Nat) : Nat → aW → Nat → Nat
  | 0, a, _ => if cr (a_rd a) p = a_ft a then 1 else 0
  | r + 1, a, c => fct a (c / 8 ^ r) * vB p r (lg (nxS a (c / 8 ^ r))) (c % 8 ^ r)
theorem wys_bd (a : aW) : 1 ≤ wys a ∧ wys a ≤ 8 := by
  have := ct_le (fre a) 8 0
  unfold wys
  by_cases c : a_rd a (a_ft a) = 8 ∧ ct (fre a) 8 0 ≠ 0
  · rw [if_pos c]; have := c.2; omega
  · rw [if_neg c]; omega
theorem nxS_ok {a : aW} (ha : okA a) (k : Nat) : okA (nxS a k) := by
  unfold nxS
  by_cases c : k < wys a ∧ a_rd a (a_ft a) = 8 ∧ ct (fre a) 8 0 ≠ 0
  · rw [if_pos c]
    have hk : k < ct (fre a) 8 0 := by have := c.1; unfold wys at this; rw [if_pos c.2] at this; exact this
    obtain ⟨h1, h2, h3⟩ := ow_ok (fre a) 8 0 k hk
    exact okA_seat ha (by omega) (Or.inl (of_decide_eq_true h1))
  · rw [if_neg c]; exact ha
theorem code8 {r d s : Nat} (h : s < 8 ^ r) : (d * 8 ^ r + s) / 8 ^ r = d ∧ (d * 8 ^ r + s) % 8 ^ r = s := by
  have hp : 0 < 8 ^ r := Nat.pow_pos (by decide)
  constructor
  · rw [Nat.add_comm, Nat.add_mul_div_right _ _ hp, Nat.div_eq_of_lt h, Nat.zero_add]
  · rw [Nat.add_comm, Nat.add_mul_mod_self_right, Nat.mod_eq_of_lt h]
/-- all codes together give the class's shares -/
theorem vB_sum (p : Nat) : ∀ (r : Nat) (a : aW), tS (vB p r a) (8 ^ r) 0 = cs p r a
  | 0, a => by
    show vB p 0 a 0 + 0 = _
    rw [Nat.add_zero, vB, cs]
  | r + 1, a => by
    have e1 := tS_block (vB p (r + 1) a) (8 ^ r) 8 0
    rw [Nat.zero_mul] at e1
    rw [Nat.pow_succ, Nat.mul_comm, e1]
    have e2 : tS (fun d => tS (vB p (r + 1) a) (8 ^ r) (d * 8 ^ r)) 8 0 = tS (fun d => fct a d * cs p r (lg (nxS a d))) 8 0 := by
      refine tS_ext _ _ (fun d _ _ => ?_)
      show tS (vB p (r + 1) a) (8 ^ r) (d * 8 ^ r) = fct a d * cs p r (lg (nxS a d))
      have e3 := tS_shift (vB p (r + 1) a) (8 ^ r) 0 (d * 8 ^ r)
      rw [Nat.zero_add] at e3
      rw [e3, ← vB_sum p r (lg (nxS a d)), ← tS_mul]
      refine tS_ext _ _ (fun s _ hs => ?_)
      show vB p (r + 1) a (s + d * 8 ^ r) = _
      rw [Nat.add_comm s, vB, (code8 (d := d) (show s < 8 ^ r by omega)).1, (code8 (d := d) (show s < 8 ^ r by omega)).2]
    rw [e2, cs]
    by_cases c : a_rd a (a_ft a) = 8 ∧ ct (fre a) 8 0 ≠ 0
    · have hw : wys a = ct (fre a) 8 0 := by unfold wys; rw [if_pos c]
      have h8 := ct_le (fre a) 8 0
      rw [if_pos c, sF_tS, ← tS_mul]
      have e4 := tS_add (fun d => fct a d * cs p r (lg (nxS a d))) (ct (fre a) 8 0) (8 - ct (fre a) 8 0) 0
      rw [show ct (fre a) 8 0 + (8 - ct (fre a) 8 0) = 8 by omega] at e4
      have e5 : tS (fun d => fct a d * cs p r (lg (nxS a d))) (8 - ct (fre a) 8 0) (0 + ct (fre a) 8 0) = 0 := by
        refine tS_zero _ _ (fun d h1 _ => ?_)
        show fct a d * _ = 0
        unfold fct
        rw [if_neg (by omega), Nat.zero_mul]
      rw [e4, e5, Nat.add_zero]
      refine tS_ext _ _ (fun d _ hd => ?_)
      show fct a d * cs p r (lg (nxS a d)) = 840 / ct (fre a) 8 0 * cs p r (lg (a_seat a (a_ft a) (ow (fre a) 8 0 d)))
      unfold fct nxS
      rw [if_pos (show d < wys a by omega), hw, if_pos ⟨by omega, c.1, c.2⟩]
    · have hw : wys a = 1 := by unfold wys; rw [if_neg c]
      rw [if_neg c]
      have e4 := tS_add (fun d => fct a d * cs p r (lg (nxS a d))) 1 7 0
      have e5 : tS (fun d => fct a d * cs p r (lg (nxS a d))) 7 (0 + 1) = 0 := by
        refine tS_zero _ _ (fun d h1 _ => ?_)
        show fct a d * _ = 0
        unfold fct
        rw [if_neg (by omega), Nat.zero_mul]
      have e4 : tS (fun d => fct a d * cs p r (lg (nxS a d))) 8 0 = _ := e4
      rw [e4, e5, Nat.add_zero]
      show fct a 0 * cs p r (lg (nxS a 0)) + 0 = _
      unfold fct nxS
      rw [hw, if_pos (by omega), if_neg (fun q => c q.2), Nat.add_zero]
theorem x_off_L {m : sM} {a : aW} (h : relM m a) (ha : okA a) : ∀ (n i j : Nat), i ≤ 8 → 8 - i < n → j < ct (fre a) (8 - i) i → f_X11_offWheel_L4 m n (nI j) (nI i) = some (nI (ow (fre a) (8 - i) i j), ()) := by
  intro n
  induction n with
  | zero => intro i j _ q; omega
  | succ n ih =>
    intro i j hi hn hj
    rw [f_X11_offWheel_L4]
    by_cases e : i = 8
    · subst e
      rw [Nat.sub_self, ct] at hj
      omega
    · have hlt : i < 8 := by omega
      have hle := cr_le (a_rd a) i
      rw [show 8 - i = (8 - (i + 1)) + 1 by omega, ct] at hj
      rw [if_neg (show ¬ (8 : Int32) ≤ nI i from nI_ge hlt (by decide)), x_carOf h ha hlt, Option.bind_some, show 8 - i = (8 - (i + 1)) + 1 by omega, ow, show nI i + (1 : Int32) = nI (i + 1) from nI_1 i]
      have hc8 := ct_le (fre a) (8 - (i + 1)) (i + 1)
      show (if 0 ≤ enc (cr (a_rd a) i) then _ else _) = _
      by_cases q : cr (a_rd a) i = 8
      · have hf : fre a i = true := decide_eq_true q
        rw [if_pos hf] at hj
        rw [if_neg (fun z => (enc_ge hle).mp z q), if_pos hf]
        by_cases j0 : j = 0
        · rw [if_pos (show nI j = (0 : Int32) by rw [j0]; rfl), if_pos j0]
        · rw [if_neg (show ¬ nI j = (0 : Int32) from nI_ne0 (by omega) (by omega)), if_neg j0, show nI j + (-1 : Int32) = nI (j - 1) by rw [show j = (j - 1) + 1 by omega]; exact pk_m1 _]
          exact ih (i + 1) (j - 1) (by omega) (by omega) (by omega)
      · have hf : fre a i = false := decide_eq_false q
        rw [hf, if_neg (by decide)] at hj
        rw [if_pos ((enc_ge hle).mpr q), hf, if_neg (by decide)]
        exact ih (i + 1) j (by omega) (by omega) (by omega)
abbrev cK7 : Type := Int32 → Int32 → Int32 → Int64 → Int64 → Int32 → Int32 → sM → Option (Int64 × sM)
abbrev cK9 : Type := Int32 → Int32 → Int32 → Int64 → Int64 → Int32 → Int32 → Int64 → Int32 → Int32 → sM → Option (Int64 × sM)
section
variable {K7 : cK7} {K9 : cK9} {v1 v2 v3 v8 v9 v12 v13 : Int32} {v4 v6 : Int64}
theorem x_242 {m : sM} {b : aW} (h : relM m b) (hb : okA b) (o : Int64) : ∃ m', f_X11_chance_J242 K7 K9 v1 v2 v3 v4 v6 v8 v9 o v12 v13 m = K9 v1 v2 v3 v4 v6 v8 v9 o v12 (v13 + 1) m' ∧ pM m m' ∧ relM m' (lg b) := by
  obtain ⟨m', h1, h2, h3, -⟩ := x_letGo h hb
  exact ⟨m', by rw [f_X11_chance_J242, h1, Option.bind_some], h2, h3⟩
theorem x_178 {m : sM} {a : aW} (h : relM m a) (ha : okA a) {k : Nat} (hk : k < 8) (o : Nat) : ∃ m', f_X11_chance_J178 K7 K9 v1 v2 v3 v4 v6 v8 v9 (lN o) v12 v13 (nI k) (nI (ct (fre a) 8 0)) (nI (wys a)) m = K9 v1 v2 v3 v4 v6 v8 v9 (lN (o * fct a k)) v12 (v13 + 1) m' ∧ pM m m' ∧ relM m' (lg (nxS a k)) := by
  obtain ⟨w1, w8⟩ := wys_bd a
  have h8 := ha.1
  have hc8 := ct_le (fre a) 8 0
  have hft : M_foot m = nI (a_ft a) := h.2.2.2.1
  have hg : ¬ (nI (a_ft a) < 0 ∨ 8 ≤ (nI (a_ft a)).toNatClampNeg) := nI_ok ha.1 (by decide)
  have hcl : (nI (a_ft a)).toNatClampNeg = a_ft a := nI_cl (by omega)
  have hg2 : ¬ (nI (a_ft a) < 0 ∨ 8 ≤ a_ft a) := fun q => q.elim (nI_pos (by omega)) (by omega)
  have hnow : M_now m (a_ft a) = enc (a_rd a (a_ft a)) := h.2.1 _ h8
  have hr8 := ha.2.2.2.2.1 _ h8
  rw [f_X11_chance_J178]
  by_cases c : k < wys a
  · have ef : fct a k = 840 / wys a := by unfold fct; rw [if_pos c]
    have n0 : ¬ lN (wys a) = (0 : Int64) := fun q => by have := (pk_lEQ (b := 0) (by omega) (by omega)).mp q; omega
    rw [if_neg (nI_ge c (by omega)), nI_l (by omega), if_neg n0, show (840 : Int64) / lN (wys a) = lN (840 / wys a) from pk_lDiv (a := 840) (by omega) (by omega) (by omega), f_X11_chance_J200, if_neg (nI_ge c (by omega)), hft, if_neg hg, hcl, hnow, lN_mul, ← ef]
    by_cases c1 : a_rd a (a_ft a) = 8
    · rw [if_neg (fun q => (enc_ge hr8).mp q c1)]
      by_cases c2 : ct (fre a) 8 0 = 0
      · have en : nxS a k = a := by unfold nxS; rw [if_neg (fun q => q.2.2 c2)]
        rw [if_pos (show nI (ct (fre a) 8 0) ≤ (0 : Int32) by rw [c2]; decide), en]
        exact x_242 h ha _
      · have hw : wys a = ct (fre a) 8 0 := by unfold wys; rw [if_pos ⟨c1, c2⟩]
        have hj : k < ct (fre a) 8 0 := by omega
        obtain ⟨q1, q2, q3⟩ := ow_ok (fre a) 8 0 k hj
        have en : nxS a k = a_seat a (a_ft a) (ow (fre a) 8 0 k) := by unfold nxS; rw [if_pos ⟨c, c1, c2⟩]
        have e9 := x_off_L h ha oF 0 k (by omega) (by have := oF_ge; omega) hj
        have e9 : f_X11_offWheel m (nI k) = some (nI (ow (fre a) 8 0 k), ()) := e9
        rw [if_neg (show ¬ nI (ct (fre a) 8 0) ≤ (0 : Int32) from nI_nle (by omega) (by omega)), e9, Option.bind_some, if_neg hg2, en]
        have hm2 : relM (mNow m (a_ft a) (nI (ow (fre a) 8 0 k))) (a_seat a (a_ft a) (ow (fre a) 8 0 k)) := by
          rw [← enc_lt (show ow (fre a) 8 0 k < 8 by omega)]
          exact mNow_rel h _ _
        obtain ⟨m', k1, k2, k3⟩ := x_242 (K7 := K7) (K9 := K9) (v1 := v1) (v2 := v2) (v3 := v3) (v4 := v4) (v6 := v6) (v8 := v8) (v9 := v9) (v12 := v12) (v13 := v13) hm2 (okA_seat ha (by omega) (Or.inl (of_decide_eq_true q1))) (lN (o * fct a k))
        exact ⟨m', by rw [← k1, ← hft]; rfl, (mNow_p m _ _).tr k2, k3⟩
    · have en : nxS a k = a := by unfold nxS; rw [if_neg (fun q => c1 q.2.1)]
      rw [if_pos ((enc_ge hr8).mpr c1), en]
      exact x_242 h ha _
  · have ef : fct a k = 0 := by unfold fct; rw [if_neg c]
    have en : nxS a k = a := by unfold nxS; rw [if_neg (fun q => c q.1)]
    rw [if_pos (nI_le (by omega) (by omega)), f_X11_chance_J200, if_pos (nI_le (by omega) (by omega)), show (0 : Int64) = lN 0 from rfl, lN_mul, ef, en]
    exact x_242 h ha _
theorem x_123 {m : sM} {a : aW} (h : relM m a) (ha : okA a) {k : Nat} (hk : k < 8) (o : Nat) : ∀ (n c i : Nat), i ≤ 8 → 8 - i < n → c + ct (fre a) (8 - i) i = ct (fre a) 8 0 → ∃ m', f_X11_chance_L123 K7 K9 n v1 v2 v3 v4 v6 v8 v9 (lN o) v12 v13 (nI k) (nI c) (nI i) m = K9 v1 v2 v3 v4 v6 v8 v9 (lN (o * fct a k)) v12 (v13 + 1) m' ∧ pM m m' ∧ relM m' (lg (nxS a k)) := by
  intro n
  induction n with
  | zero => intro c i _ q; omega
  | succ n ih =>
    intro c i hi hn hc
    rw [f_X11_chance_L123]
    by_cases e : i = 8
    · subst e
      rw [Nat.sub_self, ct, Nat.add_zero] at hc
      subst hc
      have h8 := ha.1
      have hr8 := ha.2.2.2.2.1 _ h8
      have hc8 := ct_le (fre a) 8 0
      have hg : ¬ (nI (a_ft a) < 0 ∨ 8 ≤ (nI (a_ft a)).toNatClampNeg) := nI_ok ha.1 (by decide)
      have hcl : (nI (a_ft a)).toNatClampNeg = a_ft a := nI_cl (by omega)
      have hnow : M_now m (a_ft a) = enc (a_rd a (a_ft a)) := h.2.1 _ h8
      have main := x_178 (K7 := K7) (K9 := K9) (v1 := v1) (v2 := v2) (v3 := v3) (v4 := v4) (v6 := v6) (v8 := v8) (v9 := v9) (v12 := v12) (v13 := v13) h ha hk o
      rw [if_pos (show (8 : Int32) ≤ nI 8 by decide), show M_foot m = nI (a_ft a) from h.2.2.2.1, if_neg hg, hcl, hnow]
      by_cases c1 : a_rd a (a_ft a) = 8
      · rw [if_neg (fun q => (enc_ge hr8).mp q c1)]
        by_cases c2 : ct (fre a) 8 0 = 0
        · have hw : wys a = 1 := by unfold wys; rw [if_neg (fun q => q.2 c2)]
          rw [hw] at main
          rw [if_pos (show nI (ct (fre a) 8 0) = (0 : Int32) by rw [c2]; rfl)]
          exact main
        · have hw : wys a = ct (fre a) 8 0 := by unfold wys; rw [if_pos ⟨c1, c2⟩]
          rw [hw] at main
          rw [if_neg (show ¬ nI (ct (fre a) 8 0) = (0 : Int32) from nI_ne0 (by omega) (by omega))]
          exact main
      · have hw : wys a = 1 := by unfold wys; rw [if_neg (fun q => c1 q.1)]
        rw [hw] at main
        rw [if_pos ((enc_ge hr8).mpr c1)]
        exact main
    · have hlt : i < 8 := by omega
      have hle := cr_le (a_rd a) i
      rw [show 8 - i = (8 - (i + 1)) + 1 by omega, ct] at hc
      rw [if_neg (show ¬ (8 : Int32) ≤ nI i from nI_ge hlt (by decide)), x_carOf h ha hlt, Option.bind_some, show nI i + (1 : Int32) = nI (i + 1) from nI_1 i, show nI c + (1 : Int32) = nI (c + 1) from nI_1 c, show nI c + (0 : Int32) = nI c from Int32.add_zero _]
      show ∃ m', (if 0 ≤ enc (cr (a_rd a) i) then _ else _) = _ ∧ _
      by_cases q : cr (a_rd a) i = 8
      · rw [show fre a i = true from decide_eq_true q, if_pos rfl] at hc
        rw [if_neg (fun z => (enc_ge hle).mp z q)]
        exact ih (c + 1) (i + 1) (by omega) (by omega) (by omega)
      · rw [show fre a i = false from decide_eq_false q, if_neg (by decide)] at hc
        rw [if_pos ((enc_ge hle).mpr q)]
        exact ih c (i + 1) (by omega) (by omega) (by omega)
theorem pow8 {r : Nat} (h : r ≤ 3) : 1 ≤ 8 ^ r ∧ 8 ^ r ≤ 512 := by
  rcases (show r = 0 ∨ r = 1 ∨ r = 2 ∨ r = 3 by omega) with q | q | q | q <;> rw [q] <;> decide
theorem x_94 {p mo c : Nat} (hp : p < 8) (hmo : mo ≤ 3) (hc : c < 512) : ∀ (n r o : Nat) (m : sM) (a : aW), r ≤ mo → r < n → okA a → relM m a → ∃ m', f_X11_chance_L94 K7 n (nI p) (nI mo) v3 v4 v6 v8 (nI c) (lN o) (nI (8 ^ r)) (nI (mo - r)) m = K7 (nI p) (nI mo) v3 (v4 + lN (o * vB p r a (c % 8 ^ r))) v6 v8 (nI (c + 1)) m' ∧ pM m m' := by
  intro n
  induction n with
  | zero => intro r o m a _ h; omega
  | succ n ih =>
    intro r o m a hr hn ha h
    have h8 := ha.1
    have hg : ¬ (nI (a_ft a) < 0 ∨ 8 ≤ (nI (a_ft a)).toNatClampNeg) := nI_ok ha.1 (by decide)
    have hcl : (nI (a_ft a)).toNatClampNeg = a_ft a := nI_cl (by omega)
    have hnow : M_now m (a_ft a) = enc (a_rd a (a_ft a)) := h.2.1 _ h8
    rw [f_X11_chance_L94]
    cases r with
    | zero =>
      have hr8 := ha.2.2.2.2.1 _ h8
      have en : (enc (a_rd a (a_ft a)) = nI p) ↔ cr (a_rd a) p = a_ft a := by
        rw [← enc_lt hp, enc_inj hr8 (by omega)]
        exact (cr_iff ha.2.2.2.2 hp h8).symm
      rw [if_pos (show nI mo ≤ nI (mo - 0) from nI_le (by omega) (by omega)), show M_foot m = nI (a_ft a) from h.2.2.2.1, if_neg hg, hcl, hnow, vB, show nI c + (1 : Int32) = nI (c + 1) from nI_1 c]
      refine ⟨m, ?_, pM.rf m⟩
      by_cases q : cr (a_rd a) p = a_ft a
      · rw [if_pos (en.mpr q), if_pos q, Nat.mul_one]
      · rw [if_neg (fun z => q (en.mp z)), if_neg q, Nat.mul_zero]; rfl
    | succ r =>
      have hp1 := pow8 (show r ≤ 3 by omega)
      have hp2 := pow8 (show r + 1 ≤ 3 by omega)
      have e1 : nI (8 ^ (r + 1)) / (8 : Int32) = nI (8 ^ r) := by
        rw [show nI (8 ^ (r + 1)) / (8 : Int32) = nI (8 ^ (r + 1) / 8) from pk_div (d := 8) (by omega) (by decide) (by decide), Nat.pow_succ, Nat.mul_div_cancel _ (by decide)]
      have e2 : nI c / nI (8 ^ r) - nI c / nI (8 ^ r) / (8 : Int32) * (8 : Int32) = nI (c / 8 ^ r % 8) := by
        rw [pk_div (by omega) (by omega) (by omega), md8 (Nat.lt_of_le_of_lt (Nat.div_le_self _ _) (by omega))]
      have e3 : c % 8 ^ (r + 1) / 8 ^ r = c / 8 ^ r % 8 := by
        rw [Nat.pow_succ]; exact Nat.mod_mul_right_div_self _ _ _
      have e4 : c % 8 ^ (r + 1) % 8 ^ r = c % 8 ^ r := Nat.mod_mod_of_dvd _ ⟨8, Nat.pow_succ 8 r⟩
      have e5 : nI (mo - (r + 1)) + (1 : Int32) = nI (mo - r) := by
        rw [show nI (mo - (r + 1)) + (1 : Int32) = nI (mo - (r + 1) + 1) from nI_1 _]
        congr 1; omega
      have hd : c / 8 ^ r % 8 < 8 := Nat.mod_lt _ (by decide)
      rw [if_neg (nI_ge (by omega) (by omega)), e1, if_neg (show ¬ nI (8 ^ r) = (0 : Int32) from nI_ne0 (by omega) (by omega)), e2, vB, e3, e4]
      obtain ⟨m1, k1, k2, k3⟩ := x_123 (K7 := K7) (K9 := f_X11_chance_L94 K7 n) (v1 := nI p) (v2 := nI mo) (v3 := v3) (v4 := v4) (v6 := v6) (v8 := v8) (v9 := nI c) (v12 := nI (8 ^ r)) (v13 := nI (mo - (r + 1))) h ha hd o oF 0 0 (by omega) (by have := oF_ge; omega) (by rw [Nat.zero_add])
      have k1 : f_X11_chance_L123 K7 (f_X11_chance_L94 K7 n) oF (nI p) (nI mo) v3 v4 v6 v8 (nI c) (lN o) (nI (8 ^ r)) (nI (mo - (r + 1))) (nI (c / 8 ^ r % 8)) 0 0 m = _ := k1
      rw [k1, e5]
      obtain ⟨m2, k4, k5⟩ := ih r (o * fct a (c / 8 ^ r % 8)) m1 _ (by omega) (by omega) (lg_ok (nxS_ok ha _)) k3
      rw [Nat.mul_assoc] at k4
      exact ⟨m2, k4, k2.tr k5⟩
end
theorem x_73 {m0 : sM} {a : aW} (ha : okA a) (h0 : rel0 m0 a) {p mo : Nat} (hp : p < 8) (hmo : mo ≤ 3) (v3 : Int32) (v6 : Int64) : ∀ (n c U : Nat) (m : sM), c ≤ 8 ^ mo → 8 ^ mo - c < n → pM m0 m → ∃ m', pM m0 m' ∧ f_X11_chance_L73 n (nI p) (nI mo) v3 (lN U) v6 (nI (8 ^ mo)) (nI c) m = f_X11_chance_L290 oF v3 (lN (U + tS (vB p mo a) (8 ^ mo - c) c)) v6 (lN (U + tS (vB p mo a) (8 ^ mo - c) c)) v6 m' := by
  have hp1 := pow8 hmo
  have ho := oF_ge
  intro n
  induction n with
  | zero => intro c U m _ h; omega
  | succ n ih =>
    intro c U m hc hn hpm
    rw [f_X11_chance_L73]
    by_cases e : c = 8 ^ mo
    · refine ⟨m, hpm, ?_⟩
      rw [if_pos (nI_le (by omega) (by omega)), e, Nat.sub_self, tS, Nat.add_zero]
    · have hlt : c < 8 ^ mo := by omega
      obtain ⟨m1, k1, k2, k3, -⟩ := x_asNow (h0.p hpm)
      obtain ⟨m2, k4, k5⟩ := x_94 (K7 := f_X11_chance_L73 n) (v3 := v3) (v4 := lN U) (v6 := v6) (v8 := nI (8 ^ mo)) hp hmo (show c < 512 by omega) oF mo 1 m1 a (by omega) (by omega) ha k3
      rw [Nat.sub_self] at k4
      have k4 : f_X11_chance_L94 (f_X11_chance_L73 n) oF (nI p) (nI mo) v3 (lN U) v6 (nI (8 ^ mo)) (nI c) 1 (nI (8 ^ mo)) 0 m1 = _ := k4
      rw [if_neg (nI_ge hlt (by omega)), k1, Option.bind_some, k4, lN_add, Nat.one_mul, Nat.mod_eq_of_lt hlt, show 8 ^ mo - c = (8 ^ mo - (c + 1)) + 1 by omega, tS, ← Nat.add_assoc]
      exact ih (c + 1) (U + vB p mo a c) m2 (by omega) (by omega) (hpm.tr (k2.tr k5))
theorem x_42 {p mo : Nat} (hmo : mo ≤ 3) (v3 : Int32) (m : sM) : ∀ (n k : Nat), k ≤ mo → mo - k < n → f_X11_chance_L42 n (nI p) (nI mo) v3 0 (lN (840 ^ k)) (nI k) m = f_X11_chance_L73 oF (nI p) (nI mo) v3 (lN 0) (lN (840 ^ mo)) (nI (8 ^ mo)) (nI 0) m := by
  intro n
  induction n with
  | zero => intro k _ q; omega
  | succ n ih =>
    intro k hk hn
    rw [f_X11_chance_L42]
    by_cases e : k = mo
    · rw [e, if_pos (nI_le (Nat.le_refl mo) (by omega)), show (8 : Int32) = nI 8 from rfl, x_pow 8 (by omega), Option.bind_some]
      rfl
    · rw [if_neg (nI_ge (by omega) (by omega)), show (840 : Int64) = lN 840 from rfl, lN_mul, ← Nat.pow_succ, show nI k + (1 : Int32) = nI (k + 1) from nI_1 k]
      exact ih (k + 1) (by omega) (by omega)
theorem c_chance {w : sW} {u : sP} {v : sS} {j1 j2 : sI} {m : sM} (I : Inv w u v j1 j2 m) (t : sW) (p x y : Int32) : ∃ r t' m', f_X10_chance w t p x y = some (r, t') ∧ f_X11_chance m p x y = some (r, m') ∧ Inv w u v j1 j2 m' := by
  obtain ⟨⟨a, ha, hw, h0⟩, -⟩ := id I
  have ho := oF_ge
  unfold f_X10_chance f_X11_chance
  rcases per_c p with ⟨k, hk, rfl, q1, -, q3⟩ | ⟨-, q1, -, q3⟩
  · rw [q1, q3, Option.bind_some, Option.bind_some, i1, i1]
    rcases rng x (lo := 0) (hi := 3) 0 3 rfl rfl (by omega) (by omega) with ⟨r1, r2⟩ | ⟨r1, r2, r4, r3⟩ | ⟨r1, r2, r4, r3, mo, -, hmo, rfl⟩
    · rw [if_pos r1, r2, Option.bind_some, i0]; exact ⟨_, _, _, rfl, rfl, I⟩
    · rw [if_neg r1, if_pos r4, r3, Option.bind_some, i0]; exact ⟨_, _, _, rfl, rfl, I⟩
    · rw [if_neg r1, if_neg r4, r3, Option.bind_some, i1]
      rcases rng y (lo := 0) (hi := 1) 0 1 rfl rfl (by omega) (by omega) with ⟨r1, r2⟩ | ⟨r1, r2, r4, r3⟩ | ⟨r1, r2, r4, r3, z, -, hz, rfl⟩
      · rw [if_pos r1, r2, Option.bind_some, i0]; exact ⟨_, _, _, rfl, rfl, I⟩
      · rw [if_neg r1, if_neg r2, r3, Option.bind_some, i0]; exact ⟨_, _, _, rfl, rfl, I⟩
      · have hp1 := pow8 hmo
        have hup : cs k mo a ≤ 6720 ^ 3 := by
          have h1 := cs_le k mo a
          have h2 : 6720 ^ mo ≤ 6720 ^ 3 := Nat.pow_le_pow_right (by decide) hmo
          omega
        have hlo : 1 ≤ 840 ^ mo ∧ 840 ^ mo ≤ 592704000 := by
          rcases (show mo = 0 ∨ mo = 1 ∨ mo = 2 ∨ mo = 3 by omega) with q | q | q | q <;> rw [q] <;> decide
        obtain ⟨t1, e1, e2⟩ := w_copyFrom hw t
        obtain ⟨t2, e3, e4⟩ := w_shares hk hmo ha e2
        have e5 := gcd_w 30 (cs k mo a) (840 ^ mo) 0 oF (by omega) (by omega) (by omega) (by omega) (by omega)
        have e5 : f_X10_greatestDivisor (lN (cs k mo a)) (lN (840 ^ mo)) = some (lN (Nat.gcd (840 ^ mo) (cs k mo a)), ()) := e5
        have hgp : 0 < Nat.gcd (840 ^ mo) (cs k mo a) := Nat.gcd_pos_of_pos_left _ (by omega)
        have hgl : Nat.gcd (840 ^ mo) (cs k mo a) ≤ 840 ^ mo := Nat.gcd_le_left _ (by omega)
        obtain ⟨m1, g1, g2⟩ := x_73 ha h0 hk hmo (nI z) (lN (840 ^ mo)) oF 0 0 m (by omega) (by omega) (pM.rf m)
        have g0 := x_42 (p := k) hmo (nI z) m oF 0 (by omega) (by omega)
        have g0 : f_X11_chance_L42 oF (nI k) (nI mo) (nI z) 0 1 0 m = _ := g0
        rw [Nat.zero_add, Nat.sub_zero, vB_sum] at g2
        have g3 := gcd_x (v3 := nI z) (v4 := lN (cs k mo a)) (v6 := lN (840 ^ mo)) m1 30 (cs k mo a) (840 ^ mo) oF (by omega) (by omega) (by omega) (by omega)
        have n0 : ¬ lN (Nat.gcd (840 ^ mo) (cs k mo a)) = (0 : Int64) := fun q => by have := (pk_lEQ (b := 0) (by omega) (by omega)).mp q; omega
        rw [if_neg r1, if_pos r2, r3, Option.bind_some, i1, g0, g2, g3, e1, Option.bind_some, e3, Option.bind_some, w_all hmo, Option.bind_some]
        show ∃ r t' m', (f_X10_greatestDivisor (lN (cs k mo a)) (lN (840 ^ mo))).bind _ = _ ∧ _
        rw [e5, Option.bind_some, if_neg n0, if_neg n0, if_pos (show (0 : Int32) < lg_cmp (lN (Nat.gcd (840 ^ mo) (cs k mo a)), ()).1 0 from (lg_cmp_gt _ _).mpr ((pk_lLT (a := 0) (by omega) (by omega)).mpr hgp))]
        by_cases z0 : nI z = 0
        · rw [if_pos z0, if_pos z0, if_neg (show ¬ (lN (Nat.gcd (840 ^ mo) (cs k mo a)), ()).1 = (0 : Int64) from n0)]
          exact ⟨_, _, _, rfl, rfl, I.p g1⟩
        · rw [if_neg z0, if_neg z0, if_neg (show ¬ (lN (Nat.gcd (840 ^ mo) (cs k mo a)), ()).1 = (0 : Int64) from n0)]
          exact ⟨_, _, _, rfl, rfl, I.p g1⟩
  · rw [q1, q3, Option.bind_some, Option.bind_some, i0, i0]
    exact ⟨_, _, _, rfl, rfl, I⟩
