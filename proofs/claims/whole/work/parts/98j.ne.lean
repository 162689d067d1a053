/-! balance: the reference's codes -/
theorem pull_ft (m : sM) (x : Int32) : ∀ n, f_X11_pullAt_L4 (mFoot m x) n = f_X11_pullAt_L4 m n := by
  intro n
  induction n with
  | zero => funext v1 v2 v3; rfl
  | succ n ih =>
    funext v1 v2 v3
    rw [f_X11_pullAt_L4, f_X11_pullAt_L4, ih]
    rfl
theorem great_ft_L (m : sM) (x : Int32) : ∀ n, f_X11_greatestPull_L4 (mFoot m x) n = f_X11_greatestPull_L4 m n := by
  intro n
  induction n with
  | zero => funext v1 v2; rfl
  | succ n ih =>
    funext v1 v2
    rw [f_X11_greatestPull_L4, f_X11_greatestPull_L4, ih, f_X11_pullAt, f_X11_pullAt, pull_ft]
    rfl
theorem great_ft (m : sM) (x : Int32) : f_X11_greatestPull (mFoot m x) = f_X11_greatestPull m := by
  rw [f_X11_greatestPull, f_X11_greatestPull, great_ft_L]
theorem x_reset {v1 v2 v3 : Int32} : ∀ (n c : Nat) (m : sM), c ≤ 8 → 8 - c < n → (∀ k, k < c → M_now m k = -6 ∧ M_heap m k = 0) → ∃ m', pM m m' ∧ (∀ k, k < 8 → M_now m' k = -6 ∧ M_heap m' k = 0) ∧ f_X11_isSeated_L3 n v1 v2 v3 (nI c) m = (f_X11_powerOf (8 : Int32) v2).bind fun z2 => f_X11_isSeated_L47 oF v1 v3 z2.1 (1 : Int32) (0 : Int32) m' := by
  intro n
  induction n with
  | zero => intro c m _ h; omega
  | succ n ih =>
    intro c m hc hn hk
    rw [f_X11_isSeated_L3]
    by_cases e : c = 8
    · subst e
      rw [if_pos (show (8 : Int32) ≤ nI 8 by decide)]
      exact ⟨m, pM.rf m, hk, rfl⟩
    · have hlt : c < 8 := by omega
      have g := nI_ok hlt (show 8 < 2147483648 by decide)
      rw [if_neg (show ¬ (8 : Int32) ≤ nI c from nI_ge hlt (by decide)), if_neg g, if_neg g, nI_cl (show c < 2147483648 by omega), show nI c + (1 : Int32) = nI (c + 1) from nI_1 c]
      obtain ⟨m', h1, h2, h3⟩ := ih (c + 1) (M_weight m, M_sits m, M_stones m, M_at m, M_drag m, M_sights m, M_sight m, M_signs m, M_pad m, M_foot m, M_turned m, M_bothWays m, upd (M_now m) c (-6), upd (M_heap m) c 0, M_reason m, M_image m, M_isKept m) (by omega) (by omega) (fun k q => by
        show upd (M_now m) c (-6) k = -6 ∧ upd (M_heap m) c 0 k = 0
        rw [upd_at, upd_at]
        by_cases z : k = c
        · rw [if_pos z, if_pos z]; exact ⟨rfl, rfl⟩
        · rw [if_neg z, if_neg z]; exact hk k (by omega))
      exact ⟨m', h1, h2, h3⟩
section
variable {S : Nat} {a : aW}
theorem x_seat47 (ha : okA a) (hS : S < 256) {c : Nat} (hc : c < 100000) : ∀ (N n i : Nat) (rd : Nat → Nat) (m : sM), n < N → i + n = 8 → ct (btS S) n i ≤ 5 → okR rd → (∀ q, i ≤ q → q < 8 → cr rd q = 8) → relM (mFoot m (nI (a_ft a))) (aR a rd) → ∃ g m', f_X11_isSeated_L47 N (nI S) (nI c) (nI (8 ^ ct (btS S) n i)) 1 (nI i) m = some (g, m') ∧ pM m m' ∧ ((g = 0 ∧ sdB (btS S) (stB a) n i rd (c % 8 ^ ct (btS S) n i) = false) ∨ (g = 1 ∧ ∃ rd', okR rd' ∧ relM (mFoot m' (nI (a_ft a))) (aR a rd') ∧ sdB (btS S) (stB a) n i rd (c % 8 ^ ct (btS S) n i) = stB a rd')) := by
  intro N
  induction N with
  | zero => intro n i rd m h; omega
  | succ N ih =>
    intro n i rd m hnN hin hct hok hun h
    rw [f_X11_isSeated_L47]
    cases n with
    | zero =>
      have : i = 8 := by omega
      subst this
      rw [if_pos (show (8 : Int32) ≤ nI 8 by decide), if_pos (Or.inr rfl)]
      exact ⟨1, m, rfl, pM.rf m, Or.inr ⟨rfl, rd, hok, h, rfl⟩⟩
    | succ n =>
      have hi : i < 8 := by omega
      rw [if_neg (show ¬ (8 : Int32) ≤ nI i from nI_ge hi (by decide)), if_neg (show ¬ (1 : Int32) = 0 by decide), (bt_at hS hi).2.1, Option.bind_some, b2f, ct, sdB, show nI i + (1 : Int32) = nI (i + 1) from nI_1 i]
      rw [ct] at hct
      by_cases q : btS S i = true
      · rw [if_pos q] at hct
        rw [if_pos q, if_pos q, if_pos q]
        have hp : 0 < 8 ^ ct (btS S) n (i + 1) := Nat.pow_pos (by decide)
        have hp2 : 8 ^ ct (btS S) n (i + 1) ≤ 8 ^ 4 := Nat.pow_le_pow_right (by decide) (by omega)
        have e1 : nI (8 ^ (ct (btS S) n (i + 1) + 1)) / (8 : Int32) = nI (8 ^ ct (btS S) n (i + 1)) := by
          rw [Nat.pow_succ, show nI (8 ^ ct (btS S) n (i + 1) * 8) / (8 : Int32) = nI (8 ^ ct (btS S) n (i + 1) * 8 / 8) from pk_div (d := 8) (by omega) (by decide) (by decide), Nat.mul_div_cancel _ (by decide)]
        have e2 : nI c / nI (8 ^ ct (btS S) n (i + 1)) - nI c / nI (8 ^ ct (btS S) n (i + 1)) / (8 : Int32) * (8 : Int32) = nI (c / 8 ^ ct (btS S) n (i + 1) % 8) := by
          rw [pk_div (by omega) hp (by omega), md8 (Nat.lt_of_le_of_lt (Nat.div_le_self _ _) (by omega))]
        have e3 : c % 8 ^ (ct (btS S) n (i + 1) + 1) / 8 ^ ct (btS S) n (i + 1) = c / 8 ^ ct (btS S) n (i + 1) % 8 := by
          rw [Nat.pow_succ]; exact Nat.mod_mul_right_div_self _ _ _
        have e4 : c % 8 ^ (ct (btS S) n (i + 1) + 1) % 8 ^ ct (btS S) n (i + 1) = c % 8 ^ ct (btS S) n (i + 1) := Nat.mod_mod_of_dvd _ ⟨8, Nat.pow_succ 8 _⟩
        have hd : c / 8 ^ ct (btS S) n (i + 1) % 8 < 8 := Nat.mod_lt _ (by decide)
        rw [e1, if_neg (show ¬ nI (8 ^ ct (btS S) n (i + 1)) = (0 : Int32) from nI_ne0 hp (by omega)), e2, if_neg (nI_ok hd (by decide)), nI_cl (show c / 8 ^ ct (btS S) n (i + 1) % 8 < 2147483648 by omega), e3, e4]
        generalize hdd : c / 8 ^ ct (btS S) n (i + 1) % 8 = d at *
        have hle := hok.1 d hd
        have hnow : M_now m d = enc (rd d) := h.2.1 d hd
        rw [hnow]
        by_cases z : rd d = 8
        · have hi8 := hun i (Nat.le_refl i) hi
          have cs := fun q' (hq : q' < 8) => cr_seat hok hd hi (Or.inl hi8) (Or.inl z) (q := q') hq
          have hm2 : relM (mFoot (mNow m d (nI i)) (nI (a_ft a))) (aR a (un rd d i)) := by
            have := mNow_rel h d i
            rw [enc_lt hi] at this
            exact this
          obtain ⟨g, m', k1, k2, k3⟩ := ih n (i + 1) (un rd d i) (mNow m d (nI i)) (by omega) (by omega) (by omega) (okR_seat hok hi (Or.inl hi8)) (fun q' q1 q2 => by rw [cs q' q2, if_neg (by omega)]; exact hun q' (by omega) q2) hm2
          rw [if_neg (fun y => (enc_ge hle).mp y z), f_X11_isSeated_J99, if_neg (nI_ok hd (by decide)), nI_cl (show d < 2147483648 by omega), show nI i + (1 : Int32) = nI (i + 1) from nI_1 i, decide_eq_true z, Bool.true_and]
          exact ⟨g, m', k1, (mNow_p m _ _).tr k2, k3⟩
        · rw [if_pos ((enc_ge hle).mpr z), f_X11_isSeated_J99, if_neg (nI_ok hd (by decide)), nI_cl (show d < 2147483648 by omega), decide_eq_false z, Bool.false_and]
          refine ⟨0, mNow m d (nI i), ?_, mNow_p m _ _, Or.inl ⟨rfl, rfl⟩⟩
          obtain ⟨N', rfl⟩ : ∃ y, N = y + 1 := ⟨N - 1, by omega⟩
          show f_X11_isSeated_L47 (N' + 1) (nI S) (nI c) (nI (8 ^ ct (btS S) n (i + 1))) 0 (nI i + 1) (mNow m d (nI i)) = _
          rw [f_X11_isSeated_L47]
          by_cases y : (8 : Int32) ≤ nI i + 1
          · rw [if_pos y, if_pos (Or.inl rfl)]
          · rw [if_neg y, if_pos rfl, if_pos (Or.inl rfl)]
      · rw [if_neg q] at hct
        rw [if_neg q, if_neg q, if_neg q, Nat.add_zero]
        exact ih n (i + 1) rd m (by omega) (by omega) (by omega) hok (fun q' q1 q2 => hun q' (by omega) q2) h
theorem x_isSeated (ha : okA a) (hS : S < 256) {m0 m : sM} (h0 : rel0 m0 a) (hpm : pM m0 m) (h5 : ct (btS S) 8 0 ≤ 5) {c : Nat} (hc : c < 8 ^ ct (btS S) 8 0) : ∃ g m', f_X11_isSeated m (nI S) (nI (ct (btS S) 8 0)) (nI c) = some (g, m') ∧ pM m0 m' ∧ ((g = 0 ∧ sdB (btS S) (stB a) 8 0 emp c = false) ∨ (g = 1 ∧ ∃ rd', okR rd' ∧ relM (mFoot m' (nI (a_ft a))) (aR a rd') ∧ sdB (btS S) (stB a) 8 0 emp c = stB a rd')) := by
  have ho := oF_ge
  have hp2 : 8 ^ ct (btS S) 8 0 ≤ 8 ^ 5 := Nat.pow_le_pow_right (by decide) h5
  obtain ⟨m1, h1, h2, h3⟩ := x_reset (v1 := nI S) (v2 := nI (ct (btS S) 8 0)) (v3 := nI c) oF 0 m (by omega) (by omega) (fun k q => by omega)
  have hr := h0.p (hpm.tr h1)
  have hrel : relM (mFoot m1 (nI (a_ft a))) (aR a emp) := ⟨hr.1, fun k hk => (h2 k hk).1, fun k hk => (h2 k hk).2, rfl, hr.2.2.2.2⟩
  obtain ⟨g, m', k1, k2, k3⟩ := x_seat47 ha hS (c := c) (by omega) oF 8 0 emp m1 (by omega) (by omega) h5 okR_emp (fun q _ q2 => (cr_emp q).resolve_right (by omega)) hrel
  rw [Nat.mod_eq_of_lt hc] at k3
  have h3 : f_X11_isSeated m (nI S) (nI (ct (btS S) 8 0)) (nI c) = _ := h3
  refine ⟨g, m', ?_, hpm.tr (h1.tr k2), k3⟩
  rw [h3, show (8 : Int32) = nI 8 from rfl, x_pow 8 (by omega), Option.bind_some]
  exact k1
end
def bFi (v2 v3 v4 v6 v7 : Int32) (m : sM) : Option (Int32 × sM) := (if 0 ≤ v2 then (if 0 ≤ v7 then (f_X11_powerOf (8 : Int32) ((v3 - (1 : Int32)) - v4)).bind fun z10 => (if z10.1 = 0 then none else some (((v7 / z10.1) - (v7 / z10.1) / (8 : Int32) * (8 : Int32)), m)) else some ((-6 : Int32), m)) else some (v6, m))
def fI (B x : Nat) : Int32 := if x < B then nI x else -6
theorem n6 {f : Nat} (h : f < 2147483648) : ¬ nI f = -6 := fun z => by
  have : (nI f).toInt = (-6 : Int32).toInt := by rw [z]
  rw [nI_toInt (by omega)] at this
  have h6 : (-6 : Int32).toInt = -6 := by decide
  omega
theorem x_124 {S : Nat} {a : aW} (ha : okA a) (hS : S < 256) {m0 : sM} (h0 : rel0 m0 a) (h5 : ct (btS S) 8 0 ≤ 5) (v2 v4 : Int32) : ∀ (N c U : Nat) (v7 : Int32) (m : sM), c ≤ 8 ^ ct (btS S) 8 0 → 8 ^ ct (btS S) 8 0 - c < N → pM m0 m → (v7 = -6 ∨ ∃ f, f < 8 ^ ct (btS S) 8 0 ∧ v7 = nI f) → ∃ m', pM m0 m' ∧ f_X11_balance_L124 N (nI S) v2 (nI (ct (btS S) 8 0)) v4 (nI (8 ^ ct (btS S) 8 0)) (nI U) v7 (nI c) m = bFi v2 (nI (ct (btS S) 8 0)) v4 (nI (U + tS (fun c => if sdB (btS S) (stB a) 8 0 emp c = true then 1 else 0) (8 ^ ct (btS S) 8 0 - c) c)) (if v7 = -6 then fI (8 ^ ct (btS S) 8 0) (lst (sdB (btS S) (stB a) 8 0 emp) (8 ^ ct (btS S) 8 0 - c) c) else v7) m' := by
  have hp1 : 0 < 8 ^ ct (btS S) 8 0 := Nat.pow_pos (by decide)
  have hp2 : 8 ^ ct (btS S) 8 0 ≤ 8 ^ 5 := Nat.pow_le_pow_right (by decide) h5
  intro N
  induction N with
  | zero => intro c U v7 m _ h; omega
  | succ N ih =>
    intro c U v7 m hc hN hpm hv
    rw [f_X11_balance_L124]
    by_cases e : c = 8 ^ ct (btS S) 8 0
    · refine ⟨m, hpm, ?_⟩
      rw [if_pos (show nI (8 ^ ct (btS S) 8 0) ≤ nI c from nI_le (by omega) (by omega)), e, Nat.sub_self, tS, lst, Nat.add_zero]
      have : (if v7 = -6 then fI (8 ^ ct (btS S) 8 0) (8 ^ ct (btS S) 8 0) else v7) = v7 := by
        by_cases q : v7 = -6
        · rw [if_pos q, q]; unfold fI; rw [if_neg (Nat.lt_irrefl _)]
        · rw [if_neg q]
      rw [this]
      rfl
    · have hlt : c < 8 ^ ct (btS S) 8 0 := by omega
      obtain ⟨g, m1, k1, k2, k3⟩ := x_isSeated ha hS h0 hpm h5 hlt
      rw [if_neg (nI_ge hlt (by omega)), k1, Option.bind_some, show 8 ^ ct (btS S) 8 0 - c = (8 ^ ct (btS S) 8 0 - (c + 1)) + 1 by omega, tS, lst, show nI c + (1 : Int32) = nI (c + 1) from nI_1 c, show nI U + (1 : Int32) = nI (U + 1) from nI_1 U]
      have no : sdB (btS S) (stB a) 8 0 emp c = false → ∃ m', pM m0 m' ∧ f_X11_balance_L124 N (nI S) v2 (nI (ct (btS S) 8 0)) v4 (nI (8 ^ ct (btS S) 8 0)) (nI U) v7 (nI (c + 1)) m1 = bFi v2 (nI (ct (btS S) 8 0)) v4 (nI (U + ((if sdB (btS S) (stB a) 8 0 emp c = true then 1 else 0) + tS (fun c => if sdB (btS S) (stB a) 8 0 emp c = true then 1 else 0) (8 ^ ct (btS S) 8 0 - (c + 1)) (c + 1)))) (if v7 = -6 then fI (8 ^ ct (btS S) 8 0) (if sdB (btS S) (stB a) 8 0 emp c = true then c else lst (sdB (btS S) (stB a) 8 0 emp) (8 ^ ct (btS S) 8 0 - (c + 1)) (c + 1)) else v7) m' := by
        intro hf
        rw [hf, if_neg (show ¬ false = true by decide), if_neg (show ¬ false = true by decide), Nat.zero_add]
        exact ih (c + 1) U v7 m1 (by omega) (by omega) k2 hv
      rcases k3 with ⟨rfl, k4⟩ | ⟨rfl, rd', q1, q2, q3⟩
      · rw [i0']
        exact no k4
      · have hg := x_great q2 (aR_ok ha q1)
        rw [great_ft] at hg
        have hdr : M_drag m1 = nI (a_dg a) := q2.2.2.2.2
        have hst := st_iff ha q1
        have hb := aG_bd (aR_ok ha q1) 8
        have hd := ha.2.1
        rw [i1', hg, Option.bind_some, hdr]
        show ∃ m', _ ∧ (if nI (a_dg a) < iI (aG (aR a rd') 8) then _ else _) = _
        by_cases z : stB a rd' = true
        · have hlt2 : ¬ nI (a_dg a) < iI (aG (aR a rd') 8) := by
            have := hst.mpr z
            rw [iI_nI] at this ⊢
            rw [iI_le (by omega) (by omega) (by omega) (by omega)] at this
            rw [iI_lt (by omega) (by omega) (by omega) (by omega)]
            omega
          rw [z] at q3
          rw [if_neg hlt2, q3, if_pos rfl, if_pos rfl, ← Nat.add_assoc]
          rcases hv with rfl | ⟨f, hf, rfl⟩
          · rw [if_neg (show ¬ (0 : Int32) ≤ -6 by decide), if_pos rfl]
            obtain ⟨m', y1, y2⟩ := ih (c + 1) (U + 1) (nI c) m1 (by omega) (by omega) k2 (Or.inr ⟨c, hlt, rfl⟩)
            rw [if_neg (n6 (by omega))] at y2
            refine ⟨m', y1, ?_⟩
            rw [y2]
            unfold fI
            rw [if_pos hlt]
          · rw [if_pos (nI_pos' (by omega)), if_neg (n6 (by omega))]
            obtain ⟨m', y1, y2⟩ := ih (c + 1) (U + 1) (nI f) m1 (by omega) (by omega) k2 (Or.inr ⟨f, hf, rfl⟩)
            rw [if_neg (n6 (by omega))] at y2
            exact ⟨m', y1, y2⟩
        · have hlt2 : nI (a_dg a) < iI (aG (aR a rd') 8) := by
            have : ¬ iI (aG (aR a rd') 8) ≤ nI (a_dg a) := fun y => z (hst.mp y)
            rw [iI_nI] at this ⊢
            rw [iI_le (by omega) (by omega) (by omega) (by omega)] at this
            rw [iI_lt (by omega) (by omega) (by omega) (by omega)]
            omega
          rw [if_pos hlt2]
          exact no (q3.trans (by simpa using z))
theorem x_55 {S : Nat} (hS : S < 256) {v2 : Int32} {P : Nat} (hP : ∀ k, k < 8 → (v2 ≤ nI k ↔ P ≤ k)) (m : sM) : ∀ (n c1 c2 k : Nat), k ≤ 8 → 8 - k < n → P ≤ 8 → f_X11_balance_L55 n (nI S) v2 (nI c1) (nI c2) (nI k) m = (if nI (c1 + ct (btS S) (8 - k) k) ≤ (5 : Int32) then (f_X11_powerOf (8 : Int32) (nI (c1 + ct (btS S) (8 - k) k))).bind fun z6 => f_X11_balance_L124 oF (nI S) v2 (nI (c1 + ct (btS S) (8 - k) k)) (nI (c2 + ct (btS S) (P - k) k)) z6.1 (0 : Int32) (-6 : Int32) (0 : Int32) m else some ((-4 : Int32), m)) := by
  intro n
  induction n with
  | zero => intro c1 c2 k _ q; omega
  | succ n ih =>
    intro c1 c2 k hk hn hP8
    rw [f_X11_balance_L55]
    by_cases e : k = 8
    · subst e
      rw [if_pos (show (8 : Int32) ≤ nI 8 by decide), Nat.sub_self, ct, Nat.add_zero, show P - 8 = 0 by omega, ct, Nat.add_zero]
    · have hlt : k < 8 := by omega
      have hb : b2 (btS S k) = nI (if btS S k = true then 1 else 0) := by
        cases btS S k with
        | false => rfl
        | true => rfl
      rw [if_neg (show ¬ (8 : Int32) ≤ nI k from nI_ge hlt (by decide)), (bt_at hS hlt).2.2, hb, nI_add, nI_add, show nI c2 + (0 : Int32) = nI c2 from Int32.add_zero _, show nI k + (1 : Int32) = nI (k + 1) from nI_1 k]
      have e8 : c1 + ct (btS S) (8 - k) k = c1 + (if btS S k = true then 1 else 0) + ct (btS S) (8 - (k + 1)) (k + 1) := by
        rw [show 8 - k = (8 - (k + 1)) + 1 by omega, ct]
        omega
      rw [e8]
      by_cases q : P ≤ k
      · rw [if_pos ((hP k hlt).mpr q), ih _ _ (k + 1) (by omega) (by omega) hP8, show P - k = 0 by omega, show P - (k + 1) = 0 by omega, ct, ct]
      · rw [if_neg (fun z => q ((hP k hlt).mp z)), ih _ _ (k + 1) (by omega) (by omega) hP8]
        have e9 : c2 + ct (btS S) (P - k) k = c2 + (if btS S k = true then 1 else 0) + ct (btS S) (P - (k + 1)) (k + 1) := by
          rw [show P - k = (P - (k + 1)) + 1 by omega, ct]
          omega
        rw [e9]
theorem oF_ge2 : 33000 < oF := by decide
theorem bal_main {S : Nat} (hS : S < 256) {w : sW} {m : sM} {a : aW} (ha : okA a) (hw : relW w a) (h0 : rel0 m a) (t : sG) {v2 : Int32} (hv : v2 = -1 ∨ ∃ p, p < 8 ∧ v2 = nI p ∧ btS S p = true) : ∃ r t' m', f_X10_balance_J43 w (nI S) v2 t = some (r, t') ∧ f_X11_balance_L55 oF (nI S) v2 0 0 0 m = some (r, m') ∧ pM m m' := by
  have ho := oF_ge
  have ho2 := oF_ge2
  have hc8 := ct_le (btS S) 8 0
  obtain ⟨P, hP8, hP⟩ : ∃ P, P ≤ 8 ∧ ∀ k, k < 8 → (v2 ≤ nI k ↔ P ≤ k) := by
    rcases hv with rfl | ⟨p, hp, rfl, -⟩
    · refine ⟨0, by omega, fun k hk => ⟨fun _ => Nat.zero_le k, fun _ => ?_⟩⟩
      rw [Int32.le_iff_toInt_le, nI_toInt (by omega)]
      have h6 : (-1 : Int32).toInt = -1 := by decide
      omega
    · exact ⟨p, by omega, fun k hk => nI_leI (by omega) (by omega)⟩
  have hL := x_55 hS hP m oF 0 0 0 (by omega) (by omega) hP8
  rw [Nat.zero_add, Nat.zero_add, Nat.sub_zero, Nat.sub_zero] at hL
  have hL : f_X11_balance_L55 oF (nI S) v2 0 0 0 m = _ := hL
  rw [hL, f_X10_balance_J43, bc_at hS, Option.bind_some]
  show ∃ r t' m', (if nI (ct (btS S) 8 0) ≤ (5 : Int32) then _ else _) = _ ∧ _
  by_cases h5 : ct (btS S) 8 0 ≤ 5
  · have hp1 : 0 < 8 ^ ct (btS S) 8 0 := Nat.pow_pos (by decide)
    have hp2 : 8 ^ ct (btS S) 8 0 ≤ 8 ^ 5 := Nat.pow_le_pow_right (by decide) h5
    have g5 : nI (ct (btS S) 8 0) ≤ (5 : Int32) := nI_le (b := 5) h5 (by decide)
    obtain ⟨g', e1, e2⟩ := w_count ha hS hw t
    obtain ⟨m', e3, e4⟩ := x_124 ha hS h0 h5 v2 (nI (ct (btS S) P 0)) oF 0 0 (-6) m (by omega) (by omega) (pM.rf m) (Or.inl rfl)
    have e4 : f_X11_balance_L124 oF (nI S) v2 (nI (ct (btS S) 8 0)) (nI (ct (btS S) P 0)) (nI (8 ^ ct (btS S) 8 0)) 0 (-6) 0 m = _ := e4
    rw [if_pos g5, if_pos g5, e1, Option.bind_some, show (8 : Int32) = nI 8 from rfl, x_pow 8 (by omega), Option.bind_some, e4, if_pos rfl, Nat.zero_add, Nat.sub_zero, sdB_sum]
    have hle := cnB_le (btS S) (stB a) 8 0 emp
    have hlt := fst_lt (btS S) (stB a) 8 0 emp
    unfold bFi
    rcases hv with rfl | ⟨p, hp, rfl, hb⟩
    · rw [if_pos rfl, if_neg (show ¬ (0 : Int32) ≤ -1 by decide)]
      exact ⟨_, _, _, rfl, rfl, e3⟩
    · have n1 : ¬ nI p = -1 := fun z => by
        have : (nI p).toInt = (-1 : Int32).toInt := by rw [z]
        rw [nI_toInt (by omega)] at this
        have h6 : (-1 : Int32).toInt = -1 := by decide
        omega
      have hPp : P = p := by
        have h1 := (hP p hp).mp (nI_le (Nat.le_refl p) (by omega))
        by_cases z : P < p
        · exact absurd ((hP P (by omega)).mpr (Nat.le_refl P)) (nI_ge z (by omega))
        · omega
      rw [if_neg n1, if_pos (nI_pos' (by omega))]
      by_cases c0 : cnB (btS S) (stB a) 8 0 emp = 0
      · have nl : ¬ lst (sdB (btS S) (stB a) 8 0 emp) (8 ^ ct (btS S) 8 0) 0 < 8 ^ ct (btS S) 8 0 := fun z => (hlt.mpr z) c0
        unfold fI
        rw [if_neg nl, if_neg (show ¬ (0 : Int32) ≤ -6 by decide), if_pos (show (nI (cnB (btS S) (stB a) 8 0 emp), g').1 = 0 by rw [c0]; rfl)]
        exact ⟨_, _, _, rfl, rfl, e3⟩
      · have yl := hlt.mp c0
        have hdig := digits_sd (btS S) (stB a) 8 0 emp (by omega) okR_emp (fun q _ q2 => (cr_emp q).resolve_right (by omega)) c0 p (Nat.zero_le _) hp hb
        have hsplit : ct (btS S) 8 0 = ct (btS S) p 0 + (ct (btS S) (8 - (p + 1)) (p + 1) + 1) := by
          have a1 := ct_add (btS S) p (8 - p) 0
          have a2 : ct (btS S) (8 - (p + 1) + 1) p = ct (btS S) (8 - (p + 1)) (p + 1) + 1 := by rw [ct, if_pos hb]
          rw [show p + (8 - p) = 8 by omega, Nat.zero_add, show 8 - p = (8 - (p + 1)) + 1 by omega, a2] at a1
          exact a1
        have hex : nI (ct (btS S) 8 0) - (1 : Int32) - nI (ct (btS S) P 0) = nI (ct (btS S) (8 - (p + 1)) (p + 1)) := by
          rw [show nI (ct (btS S) 8 0) - (1 : Int32) = nI (ct (btS S) 8 0 - 1) from pk_sub (b := 1) (by omega), pk_sub (by rw [hPp]; omega), hPp]
          congr 1
          omega
        have hq1 : 0 < 8 ^ ct (btS S) (8 - (p + 1)) (p + 1) := Nat.pow_pos (by decide)
        have hq2 : 8 ^ ct (btS S) (8 - (p + 1)) (p + 1) ≤ 8 ^ 5 := Nat.pow_le_pow_right (by decide) (by omega)
        have hfc := e2 c0 p hp
        have hcr8 : cr (fsB (btS S) (stB a) 8 0 emp) p < 8 := by rw [← hdig]; exact Nat.mod_lt _ (by decide)
        unfold fI
        rw [if_pos yl, if_pos (nI_pos' (by omega)), hex, show (8 : Int32) = nI 8 from rfl, x_pow 8 (show ct (btS S) (8 - (p + 1)) (p + 1) < 1000 by omega), Option.bind_some, if_neg (show ¬ (nI (cnB (btS S) (stB a) 8 0 emp), g').1 = 0 from nI_ne0 (by omega) (by omega))]
        show ∃ r t' m'', (f_X5_carInFirst g' (nI p)).bind _ = _ ∧ (if nI (8 ^ ct (btS S) (8 - (p + 1)) (p + 1)) = 0 then _ else some (nI (lst (sdB (btS S) (stB a) 8 0 emp) (8 ^ ct (btS S) 8 0) 0) / nI (8 ^ ct (btS S) (8 - (p + 1)) (p + 1)) - nI (lst (sdB (btS S) (stB a) 8 0 emp) (8 ^ ct (btS S) 8 0) 0) / nI (8 ^ ct (btS S) (8 - (p + 1)) (p + 1)) / nI 8 * nI 8, m')) = _ ∧ _
        rw [if_neg (show ¬ nI (8 ^ ct (btS S) (8 - (p + 1)) (p + 1)) = (0 : Int32) from nI_ne0 hq1 (by omega)), pk_div (by omega) hq1 (by omega), pk_rem (Nat.lt_of_le_of_lt (Nat.div_le_self _ _) (by omega)) (by decide) (by decide), hdig, f_X5_carInFirst, at_in _ hp (by decide), Option.bind_some, Option.bind_some]
        refine ⟨nI (cr (fsB (btS S) (stB a) 8 0 emp) p), g', m', ?_, rfl, e3⟩
        show some (G_firstCars g' p, g') = _
        rw [hfc, enc_lt hcr8]
  · have g5 : ¬ nI (ct (btS S) 8 0) ≤ (5 : Int32) := nI_ge (a := 5) (by omega) (by omega)
    rw [if_neg g5, if_neg g5]
    exact ⟨_, _, _, rfl, rfl, pM.rf m⟩
theorem c_balance {w : sW} {u : sP} {v : sS} {j1 j2 : sI} {m : sM} (I : Inv w u v j1 j2 m) (t : sG) (x p : Int32) : ∃ r t' m', f_X10_balance w t x p = some (r, t') ∧ f_X11_balance m x p = some (r, m') ∧ Inv w u v j1 j2 m' := by
  obtain ⟨⟨a, ha, hw, h0⟩, -⟩ := id I
  have out : ∀ q : Int32, (x < 0 ∨ (¬ x < 0 ∧ ¬ x < 256)) → f_X11_in x 0 255 = some (0, ()) → ∃ r t' m', f_X10_balance_J14 w x q t = some (r, t') ∧ f_X11_balance_J33 x q m = some (r, m') ∧ Inv w u v j1 j2 m' := by
    intro q h1 h2
    rw [f_X10_balance_J14, f_X11_balance_J33, h2, Option.bind_some, i0]
    rcases h1 with h1 | ⟨h1, h3⟩
    · rw [if_pos h1]; exact ⟨_, _, _, rfl, rfl, I⟩
    · rw [if_neg h1, if_neg h3]; exact ⟨_, _, _, rfl, rfl, I⟩
  unfold f_X10_balance f_X11_balance
  rcases rng x (lo := 0) (hi := 255) 0 255 rfl rfl (by omega) (by omega) with ⟨r1, r2⟩ | ⟨r1, r2, r4, r3⟩ | ⟨r1, r2, r4, r3, S, -, hS, rfl⟩
  · by_cases e : p = -1
    · rw [if_pos e, if_pos e]; exact out p (Or.inl r1) r2
    · rw [if_neg e, if_neg e]
      rcases per_c p with ⟨k, hk, rfl, q1, -, q3⟩ | ⟨-, q1, -, q3⟩
      · rw [q1, q3, Option.bind_some, Option.bind_some, i1, i1, r2, Option.bind_some, i0]
        exact out _ (Or.inl r1) r2
      · rw [q1, q3, Option.bind_some, Option.bind_some, i0, i0]; exact ⟨_, _, _, rfl, rfl, I⟩
  · have h256 : ¬ x < 256 := by
      obtain ⟨n, hn, rfl⟩ := nI_of r1
      have : 255 < n := by
        rcases Nat.lt_or_ge 255 n with h | h
        · exact h
        · exact absurd (nI_le (b := 255) h (by decide)) r2
      exact nI_nlt (b := 256) (by omega) hn
    by_cases e : p = -1
    · rw [if_pos e, if_pos e]; exact out p (Or.inr ⟨r1, h256⟩) r3
    · rw [if_neg e, if_neg e]
      rcases per_c p with ⟨k, hk, rfl, q1, -, q3⟩ | ⟨-, q1, -, q3⟩
      · rw [q1, q3, Option.bind_some, Option.bind_some, i1, i1, r3, Option.bind_some, i0]
        exact out _ (Or.inr ⟨r1, h256⟩) r3
      · rw [q1, q3, Option.bind_some, Option.bind_some, i0, i0]; exact ⟨_, _, _, rfl, rfl, I⟩
  · have hS' : S < 256 := by omega
    have h256 : nI S < (256 : Int32) := nI_lt (b := 256) hS' (by decide)
    by_cases e : p = -1
    · rw [if_pos e, if_pos e, f_X10_balance_J14, f_X11_balance_J33, r3, Option.bind_some, i1, if_neg r1, if_pos h256, if_pos e]
      obtain ⟨r, t', m', g1, g2, g3⟩ := bal_main hS' ha hw h0 t (v2 := p) (Or.inl e)
      exact ⟨r, t', m', g1, g2, I.p g3⟩
    · rw [if_neg e, if_neg e]
      rcases per_c p with ⟨k, hk, rfl, q1, -, q3⟩ | ⟨-, q1, -, q3⟩
      · rw [q1, q3, Option.bind_some, Option.bind_some, i1, i1, r3, Option.bind_some, i1, (bt_at hS' hk).2.1, Option.bind_some, b2f, f_X10_balance_J14, if_neg r1, if_pos h256, if_neg e, (bt_at hS' hk).1, Option.bind_some, b2f]
        by_cases c : btS S k = true
        · rw [if_pos c, if_pos c, f_X11_balance_J33, r3, Option.bind_some, i1]
          obtain ⟨r, t', m', g1, g2, g3⟩ := bal_main hS' ha hw h0 t (v2 := nI k) (Or.inr ⟨k, hk, rfl, c⟩)
          exact ⟨r, t', m', g1, g2, I.p g3⟩
        · rw [if_neg c, if_neg c]; exact ⟨_, _, _, rfl, rfl, I⟩
      · rw [q1, q3, Option.bind_some, Option.bind_some, i0, i0]; exact ⟨_, _, _, rfl, rfl, I⟩
