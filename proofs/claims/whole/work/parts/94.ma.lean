/-! the text told by the reference, whole -/
theorem x_text_L {u : sP} {m0 : sM} {len : Nat} {sg : Nat → Nat} (hp : relP u m0 len sg) {but : Nat} (hx : okX sg len but) {code : Nat} (hc : code < 512) : ∀ (n i : Nat) (m : sM) (a : aW) (tt : Int), i ≤ len → len - i < n → pM m0 m → relM m a → okA a → M_turned m = iI tt → M_reason m = 0 →
    ∃ m', f_X11_goText_L37 n (nI code) (eb but) (nI (byv (askN sg len) (askN sg i))) (nI i) m = some (if (tl sg (pfc code (askN sg len)) but (len - i) i a tt).1 = true then -6 else nI (tl sg (pfc code (askN sg len)) but (len - i) i a tt).2.1, m') ∧ pM m0 m' ∧
      ((tl sg (pfc code (askN sg len)) but (len - i) i a tt).1 = true → relM m' (tl sg (pfc code (askN sg len)) but (len - i) i a tt).2.2.2.1 ∧ M_turned m' = iI (tl sg (pfc code (askN sg len)) but (len - i) i a tt).2.2.2.2) ∧
      ((tl sg (pfc code (askN sg len)) but (len - i) i a tt).1 = false → M_reason m' = nI (tl sg (pfc code (askN sg len)) but (len - i) i a tt).2.2.1 ∧ (tl sg (pfc code (askN sg len)) but (len - i) i a tt).2.1 < 60) := by
  have h60 := hp.1
  intro n
  induction n with
  | zero => intro i m a tt _ q; omega
  | succ n ih =>
    intro i m a tt hi hn hpm h ha ht hr0
    have hsg : M_signs m = nI len := by rw [hpm.2.2.2.2.2.2.2.1]; exact hp.2.2.1
    rw [g_step, hsg]
    by_cases e : i = len
    · rw [if_pos (show nI len ≤ nI i from nI_le (by omega) (by omega)), e, Nat.sub_self]
      exact ⟨m, rfl, hpm, fun _ => ⟨h, ht⟩, fun q => by cases q⟩
    · have hlt : i < len := by omega
      obtain ⟨s1, s2, -, s4⟩ := hp.2.2.2.2 i hlt
      have hpd : M_pad m i = nI (sg i) := by rw [hpm.2.2.2.2.2.2.2.2.1]; exact s4
      rw [if_neg (show ¬ nI len ≤ nI i from nI_ge hlt (by omega)), if_neg (nI_ok (show i < 60 by omega) (by decide)), nI_cl (show i < 2147483648 by omega), hpd, show len - i = (len - (i + 1)) + 1 by omega, tl]
      by_cases eb1 : i = but
      · have hb := hx.2 (by omega)
        rw [← eb1] at hb
        have hk := hx.1.1 i hlt
        have hk8 : kd (sg i) ≠ 8 := fun q => hb.1 (kd8.mp q)
        have hkr := (kd_rng (sg i)).2.2.2.2
        rw [if_pos eb1, ← eb1]
        obtain ⟨m', g1, g2, g3⟩ := g_evb (K := f_X11_goText_L37 n) (v1 := nI code) (v3 := nI (byv (askN sg len) (askN sg i))) h ha hr0 (show i < 60 by omega) (show sg i < 128 by omega) (by omega)
        rcases g3 with ⟨-, g4, g5, g6⟩ | ⟨g4, -⟩
        · rw [g6]
          have := ih (i + 1) m' a tt hlt (by omega) (hpm.tr g1) g5 ha (g2.trans ht) g4
          rw [askN, if_neg hb.1, Nat.add_zero, ← eb1] at this
          exact this
        · omega
      · rw [if_neg eb1]
        obtain ⟨m', g1, g2, g3⟩ := g_ev (K := f_X11_goText_L37 n) (code := code) (asked := askN sg len) (j := askN sg i) h ha hr0 (show i < 60 by omega) (show sg i < 128 by omega) (hx.1.1 i hlt) eb1 hc hx.1.2 (fun q => askN_lt sg hlt (kd8.mp q))
        have ej : (if kd (sg i) = 8 then askN sg i + 1 else askN sg i) = askN sg (i + 1) := by
          rw [askN]
          by_cases q : sg i = 63
          · rw [if_pos q, if_pos (kd8.mpr q)]
          · rw [if_neg q, if_neg (fun z => q (kd8.mp z))]; rfl
        rw [ej] at g3
        rcases g3 with ⟨er, g4, g5, g6⟩ | ⟨er, g4, g6⟩
        · rw [if_pos er, g6]
          exact ih (i + 1) m' _ (tt + evT a (sg i)) hlt (by omega) (hpm.tr g1) g5 (evA_ok ha (whom_lt (pfc_lt _ _ _)) er) (by rw [g2, ht, iI_add]) g4
        · have er2 : ¬ evR a (sg i) (whom (sg i) (pfc code (askN sg len) (askN sg i))) = 0 := by omega
          rw [if_neg er2, g6]
          exact ⟨m', rfl, hpm.tr g1, (fun q => by cases q), fun _ => ⟨g4, by show i < 60; omega⟩⟩
theorem x_by_L {u : sP} {m : sM} {len : Nat} {sg : Nat → Nat} (hp : relP u m len sg) (h3 : askN sg len ≤ 3) (v1 v2 : Int32) : ∀ (n i : Nat), 1 ≤ i → i ≤ 3 → 4 - i < n → (i ≤ askN sg len ∨ i = 1) → ∃ k, f_X11_goText_L14 n v1 v2 (nI (8 ^ (i - 1))) (nI i) m = f_X11_goText_L37 oF v1 v2 (nI (byv (askN sg len) 0)) (0 : Int32) m ∧ k = n := by
  intro n
  induction n with
  | zero => intro i _ _ q; omega
  | succ n ih =>
    intro i h1 h2 hn hl
    refine ⟨n + 1, ?_, rfl⟩
    rw [f_X11_goText_L14, m_opens hp, Option.bind_some]
    show (if nI (askN sg len) ≤ nI i then _ else _) = _
    by_cases e : askN sg len ≤ i
    · rw [if_pos (nI_le e (by omega))]
      have : 8 ^ (i - 1) = byv (askN sg len) 0 := by
        unfold byv
        rcases hl with q | q
        · rw [show askN sg len = i by omega]; congr 1
        · rw [q, show askN sg len - 1 - 0 = 0 by omega]
      rw [this]
    · rw [if_neg (nI_ge (by omega) (by omega))]
      obtain ⟨k, g, -⟩ := ih (i + 1) (by omega) (by omega) (by omega) (Or.inl (by omega))
      have e8 : nI (8 ^ (i - 1)) * (8 : Int32) = nI (8 ^ (i + 1 - 1)) := by
        rw [show (8 : Int32) = nI 8 from rfl, pk_mul]
        congr 1
        rw [show i + 1 - 1 = (i - 1) + 1 by omega, Nat.pow_succ]
      rw [e8, show nI i + (1 : Int32) = nI (i + 1) from nI_1 i]
      exact g
theorem x_goText {u : sP} {m : sM} {len : Nat} {sg : Nat → Nat} (hp : relP u m len sg) {but : Nat} (hx : okX sg len but) {a : aW} (h0 : rel0 m a) (ha : okA a) {code : Nat} (hc : code < 512) :
    ∃ m', f_X11_goText m (nI code) (eb but) = some (if (tell sg len code but a).1 = true then -6 else nI (tell sg len code but a).2.1, m') ∧ pM m m' ∧
      ((tell sg len code but a).1 = true → relM m' (tell sg len code but a).2.2.2.1 ∧ M_turned m' = iI (tell sg len code but a).2.2.2.2) ∧
      ((tell sg len code but a).1 = false → M_reason m' = nI (tell sg len code but a).2.2.1 ∧ (tell sg len code but a).2.1 < 60) := by
  obtain ⟨m1, h1, h2, h3, h4, h5, h6⟩ := x_asNow h0
  have ho := oF_ge
  have h60 := hp.1
  have hp1 : relP u (mRea m1 0) len sg := hp.p (h2.tr (mRea_p m1 0))
  have e3 := hx.1.2
  rw [f_X11_goText, h1, Option.bind_some]
  show ∃ m', f_X11_goText_L14 oF (nI code) (eb but) 1 1 (mRea m1 0) = _ ∧ _
  obtain ⟨k, g, -⟩ := x_by_L hp1 e3 (nI code) (eb but) oF 1 (by omega) (by omega) (by omega) (Or.inr rfl)
  have g : f_X11_goText_L14 oF (nI code) (eb but) 1 1 (mRea m1 0) = f_X11_goText_L37 oF (nI code) (eb but) (nI (byv (askN sg len) 0)) 0 (mRea m1 0) := g
  rw [g]
  generalize oF = N at ho ⊢
  have := x_text_L hp hx hc N 0 (mRea m1 0) a 0 (Nat.zero_le _) (by omega) (h2.tr (mRea_p m1 0)) h3 ha h4 rfl
  exact this
