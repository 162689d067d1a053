/-! restore, filled, year -/
def mRs (m : sM) (f1 f2 f3 : Fn) : sM := (f1, f2, f3, M_at m, M_drag m, M_sights m, M_sight m, M_signs m, M_pad m, M_foot m, M_turned m, M_bothWays m, M_now m, M_heap m, M_reason m, M_image m, M_isKept m)
def mSi (m : sM) (s : Fn) : sM := (M_weight m, M_sits m, M_stones m, M_at m, M_drag m, M_sights m, s, M_signs m, M_pad m, M_foot m, M_turned m, M_bothWays m, M_now m, M_heap m, M_reason m, M_image m, M_isKept m)
theorem re93 {b : Nat} (hb : b ≤ 40) (m : sM) : ∀ (n c : Nat) (s : Fn), c ≤ 12 → 12 - c < n → ∃ g, f_X11_restore_L93 n (nI b) (nI c) (mSi m s) = some (1, (M_weight m, M_sits m, M_stones m, M_image m (b + 36), M_image m (b + 37), M_image m (b + 38), g, M_signs m, M_pad m, M_foot m, M_turned m, M_bothWays m, M_now m, M_heap m, M_reason m, M_image m, M_isKept m)) ∧ ∀ k, g k = if c ≤ k ∧ k < 12 then M_image m (b + 24 + k) else s k := by
  intro n
  induction n with
  | zero => intro c f _ h; omega
  | succ n ih =>
    intro c f hc hn
    rw [f_X11_restore_L93]
    have e36 : nI b + (36 : Int32) = nI (b + 36) := nI_add b 36
    have e37 : nI b + (37 : Int32) = nI (b + 37) := nI_add b 37
    have e38 : nI b + (38 : Int32) = nI (b + 38) := nI_add b 38
    have e24 : nI b + (24 : Int32) + nI c = nI (b + 24 + c) := by rw [show nI b + (24 : Int32) = nI (b + 24) from nI_add b 24, nI_add]
    by_cases e : c = 12
    · subst e
      rw [if_pos (show (12 : Int32) ≤ nI 12 by decide), e36, e37, e38, if_neg (nI_ok (show b + 36 < 80 by omega) (by decide)), if_neg (nI_ok (show b + 37 < 80 by omega) (by decide)), if_neg (nI_ok (show b + 38 < 80 by omega) (by decide)), nI_cl (show b + 36 < 2147483648 by omega), nI_cl (show b + 37 < 2147483648 by omega), nI_cl (show b + 38 < 2147483648 by omega)]
      refine ⟨f, rfl, fun k => ?_⟩
      rw [if_neg (by omega)]
    · have hlt : c < 12 := by omega
      rw [if_neg (show ¬ (12 : Int32) ≤ nI c from nI_ge hlt (by decide)), e24, if_neg (nI_ok (show b + 24 + c < 80 by omega) (by decide)), if_neg (nI_ok hlt (by decide)), nI_cl (show c < 2147483648 by omega), nI_cl (show b + 24 + c < 2147483648 by omega), show nI c + (1 : Int32) = nI (c + 1) from nI_1 c]
      obtain ⟨g, h1, h2⟩ := ih (c + 1) (upd f c (M_image m (b + 24 + c))) (by omega) (by omega)
      refine ⟨g, h1, fun k => ?_⟩
      rw [h2 k, upd_at]
      by_cases d : k = c
      · rw [if_neg (by omega), if_pos d, if_pos (by omega), d]
      · rw [if_neg d]
        by_cases d2 : c + 1 ≤ k ∧ k < 12
        · rw [if_pos d2, if_pos (by omega)]
        · rw [if_neg d2, if_neg (by omega)]
theorem re31 {b : Nat} (hb : b ≤ 40) (m : sM) : ∀ (n c : Nat) (f1 f2 f3 : Fn), c ≤ 8 → 8 - c < n → ∃ g1 g2 g3, f_X11_restore_L31 n (nI b) (nI c) (mRs m f1 f2 f3) = f_X11_restore_L93 oF (nI b) (nI 0) (mRs m g1 g2 g3) ∧ ∀ k, c ≤ k → k < 8 → g1 k = M_image m (b + k) ∧ g2 k = M_image m (b + 8 + k) ∧ g3 k = M_image m (b + 16 + k) := by
  have key : ∀ (n c : Nat) (f1 f2 f3 : Fn), c ≤ 8 → 8 - c < n → ∃ g1 g2 g3, f_X11_restore_L31 n (nI b) (nI c) (mRs m f1 f2 f3) = f_X11_restore_L93 oF (nI b) (nI 0) (mRs m g1 g2 g3) ∧ ∀ k, (c ≤ k ∧ k < 8 → g1 k = M_image m (b + k) ∧ g2 k = M_image m (b + 8 + k) ∧ g3 k = M_image m (b + 16 + k)) ∧ (k < c → g1 k = f1 k ∧ g2 k = f2 k ∧ g3 k = f3 k) := by
    intro n
    induction n with
    | zero => intro c f1 f2 f3 _ h; omega
    | succ n ih =>
      intro c f1 f2 f3 hc hn
      rw [f_X11_restore_L31]
      have e0 : nI b + nI c = nI (b + c) := nI_add b c
      have e8 : nI b + (8 : Int32) + nI c = nI (b + 8 + c) := by rw [show nI b + (8 : Int32) = nI (b + 8) from nI_add b 8, nI_add]
      have e16 : nI b + (16 : Int32) + nI c = nI (b + 16 + c) := by rw [show nI b + (16 : Int32) = nI (b + 16) from nI_add b 16, nI_add]
      by_cases e : c = 8
      · subst e
        rw [if_pos (show (8 : Int32) ≤ nI 8 by decide)]
        exact ⟨f1, f2, f3, rfl, fun k => ⟨fun q => by omega, fun _ => ⟨rfl, rfl, rfl⟩⟩⟩
      · have hlt : c < 8 := by omega
        have g := nI_ok hlt (show 8 < 2147483648 by decide)
        rw [if_neg (show ¬ (8 : Int32) ≤ nI c from nI_ge hlt (by decide)), e0, e8, e16, if_neg (nI_ok (show b + c < 80 by omega) (by decide)), if_neg g, if_neg (nI_ok (show b + 8 + c < 80 by omega) (by decide)), if_neg g, if_neg (nI_ok (show b + 16 + c < 80 by omega) (by decide)), if_neg g, nI_cl (show c < 2147483648 by omega), nI_cl (show b + c < 2147483648 by omega), nI_cl (show b + 8 + c < 2147483648 by omega), nI_cl (show b + 16 + c < 2147483648 by omega), show nI c + (1 : Int32) = nI (c + 1) from nI_1 c]
        obtain ⟨g1, g2, g3, h1, h2⟩ := ih (c + 1) (upd f1 c (M_image m (b + c))) (upd f2 c (M_image m (b + 8 + c))) (upd f3 c (M_image m (b + 16 + c))) (by omega) (by omega)
        refine ⟨g1, g2, g3, h1, fun k => ⟨fun q => ?_, fun q => ?_⟩⟩
        · by_cases d : k = c
          · obtain ⟨d1, d2, d3⟩ := (h2 k).2 (by omega)
            rw [d1, d2, d3, d]
            exact ⟨pk_us, pk_us, pk_us⟩
          · exact (h2 k).1 (by omega)
        · obtain ⟨d1, d2, d3⟩ := (h2 k).2 (by omega)
          rw [d1, d2, d3]
          exact ⟨pk_un (by omega), pk_un (by omega), pk_un (by omega)⟩
  intro n c f1 f2 f3 hc hn
  obtain ⟨g1, g2, g3, h1, h2⟩ := key n c f1 f2 f3 hc hn
  exact ⟨g1, g2, g3, h1, fun k d1 d2 => (h2 k).1 ⟨d1, d2⟩⟩
theorem c_restore {w : sW} {u : sP} {v : sS} {j1 j2 : sI} {m : sM} (I : Inv w u v j1 j2 m) (x : Int32) : ∃ r w' v' m', f_X10_restore w v j1 j2 x = some (r, (w', v')) ∧ f_X11_restore m x = some (r, m') ∧ Inv w' u v' j1 j2 m' := by
  obtain ⟨⟨a, ha, hw, h0⟩, ⟨len, sg, hP⟩, hS, hI1, hI2⟩ := id I
  have ho := oF_ge
  unfold f_X10_restore f_X11_restore
  have main : ∀ (j : Nat) (i : sI), j < 2 → relI i j m → (f_X2_isKept i = some (I_kept i, ()) ∧ ((I_kept i = 0 ∧ M_isKept m j = 0) ∨ (I_kept i = 1 ∧ M_isKept m j = 1 ∧ ∃ w' v' m', f_X2_giveBack i w v = some (w', v') ∧ f_X11_restore_L31 oF (nI (40 * j)) (0 : Int32) m = some (1, m') ∧ Inv w' u v' j1 j2 m'))) := by
    intro j i hj hI
    rcases hI with ⟨h1, h2⟩ | ⟨h1, h2, ⟨a', h3, h4, h5⟩, h6⟩
    · refine ⟨?_, Or.inl ⟨h1, h2⟩⟩
      rw [f_X2_isKept, if_pos (Or.inl h1)]
    · refine ⟨by rw [f_X2_isKept, if_pos (Or.inr h1)], Or.inr ⟨h1, h2, ?_⟩⟩
      obtain ⟨w', e1, e2⟩ := w_copyFrom h4 w
      obtain ⟨v', e3, e4⟩ := s_copy h6 v
      obtain ⟨g1, g2, g3, e5, e6⟩ := re31 (b := 40 * j) (by omega) m oF 0 (M_weight m) (M_sits m) (M_stones m) (by omega) (by omega)
      obtain ⟨s, e7, e8⟩ := re93 (b := 40 * j) (by omega) (mRs m g1 g2 g3) oF 0 (M_sight m) (by omega) (by omega)
      refine ⟨w', v', _, by rw [f_X2_giveBack, e1, Option.bind_some, e3, Option.bind_some], e5.trans e7, ⟨a', h3, e2, fun k hk => ?_, fun k hk => ?_, fun k hk => ?_, h5.2.2.2.1, h5.2.2.2.2⟩, ⟨len, sg, hP.o rfl rfl⟩, ?_, hI1.o rfl rfl, hI2.o rfl rfl⟩
      · exact (e6 k (by omega) hk).1.trans (h5.1 k hk)
      · exact (e6 k (by omega) hk).2.1.trans (h5.2.1 k hk)
      · exact (e6 k (by omega) hk).2.2.trans (h5.2.2.1 k hk)
      · obtain ⟨n, s1, s2, s3, s4⟩ := e4
        refine ⟨n, s1, s2, s3, fun k hk => ?_⟩
        obtain ⟨p, q, d1, d2, d3, d4, d5, d6⟩ := s4 k hk
        refine ⟨p, q, d1, d2, d3, d4, ?_, ?_⟩
        · show s (2 * k) = _
          rw [e8, if_pos (by omega)]; exact d5
        · show s (2 * k + 1) = _
          rw [e8, if_pos (by omega)]; exact d6
  rcases rng x (lo := 0) (hi := 1) 0 1 rfl rfl (by omega) (by omega) with ⟨r1, r2⟩ | ⟨r1, r2, -, r3⟩ | ⟨r1, r2, -, r3, n, hn1, hn2, rfl⟩
  · rw [if_pos r1, r2, Option.bind_some, i0]; exact ⟨_, _, _, _, rfl, rfl, I⟩
  · rw [if_neg r1, if_neg r2, r3, Option.bind_some, i0]; exact ⟨_, _, _, _, rfl, rfl, I⟩
  · rw [if_neg r1, if_pos r2, r3, Option.bind_some, i1, if_neg (nI_ok (show n < 2 by omega) (by decide)), nI_cl (show n < 2147483648 by omega), show (40 : Int32) * nI n = nI (40 * n) from pk_mul 40 n]
    rcases (show n = 0 ∨ n = 1 by omega) with rfl | rfl
    · obtain ⟨d1, d2⟩ := main 0 j1 (by omega) hI1
      rw [if_pos (show nI 0 = (0 : Int32) from rfl), d1, Option.bind_some]
      rcases d2 with ⟨d3, d4⟩ | ⟨d3, d4, w', v', m', d5, d6, d7⟩
      · rw [if_pos d4, d3, i0]; exact ⟨_, _, _, _, rfl, rfl, I⟩
      · rw [if_neg (show ¬ M_isKept m 0 = 0 by rw [d4]; decide), d3, i1, d5, Option.bind_some, d6]
        exact ⟨_, _, _, _, rfl, rfl, d7⟩
    · obtain ⟨d1, d2⟩ := main 1 j2 (by omega) hI2
      rw [if_neg (show ¬ nI 1 = (0 : Int32) by decide), d1, Option.bind_some]
      rcases d2 with ⟨d3, d4⟩ | ⟨d3, d4, w', v', m', d5, d6, d7⟩
      · rw [if_pos d4, d3, i0]; exact ⟨_, _, _, _, rfl, rfl, I⟩
      · rw [if_neg (show ¬ M_isKept m 1 = 0 by rw [d4]; decide), d3, i1, d5, Option.bind_some, d6]
        exact ⟨_, _, _, _, rfl, rfl, d7⟩
/-! filled -/
theorem x_pow_L {B k : Nat} (hk : k < 1000) : ∀ (n j : Nat), j ≤ k → k - j < n → f_X11_powerOf_L4 n (nI B) (nI k) (nI (B ^ j)) (nI j) = some (nI (B ^ k), ()) := by
  intro n
  induction n with
  | zero => intro j _ h; omega
  | succ n ih =>
    intro j hj hn
    rw [f_X11_powerOf_L4]
    by_cases e : j = k
    · rw [e, if_pos (nI_le (Nat.le_refl k) (by omega))]
    · rw [if_neg (nI_ge (by omega) (by omega)), pk_mul, show nI j + (1 : Int32) = nI (j + 1) from nI_1 j, ← Nat.pow_succ]
      exact ih (j + 1) (by omega) (by omega)
theorem x_pow (B : Nat) {k : Nat} (hk : k < 1000) : f_X11_powerOf (nI B) (nI k) = some (nI (B ^ k), ()) :=
  x_pow_L hk oF 0 (Nat.zero_le _) (by have := oF_ge; omega)
abbrev fK : Type := Int32 → Int32 → Int32 → Int32 → Int32 → sM → Option (Int32 × sM)
theorem sights_L {v : sS} {w : sW} {m : sM} {a : aW} (hS : relS v m) (hw : relW w a) (hm : relM m a) (ha : okA a) (K : fK) (v1 v2 v3 v4 v5 : Int32) {cnt : Nat} (hcnt : S_count v = nI cnt) (hc6 : cnt ≤ 6) : ∀ (n k : Nat), k ≤ cnt → cnt - k < n → ∃ b : Bool, f_X6_areTrue_L2 v w n (nI k) = some (b2 b, ()) ∧ f_X11_filled_L56 K n v1 v2 v3 v4 v5 1 (nI k) m = f_X11_filled_J111 K v1 v2 v3 v4 v5 (b2 b) m := by
  obtain ⟨c, s1, s2, s3, s4⟩ := hS
  have hcc : c = cnt := (nI_eq (by omega) (by omega)).mp (s2.symm.trans hcnt)
  subst hcc
  intro n
  induction n with
  | zero => intro k _ h; omega
  | succ n ih =>
    intro k hk hn
    rw [f_X6_areTrue_L2, f_X11_filled_L56, show S_count v = nI c from s2, show M_sights m = nI c from s3]
    by_cases e : k = c
    · rw [e, if_pos (nI_le (Nat.le_refl c) (by omega)), if_pos (nI_le (Nat.le_refl c) (by omega))]
      exact ⟨true, rfl, rfl⟩
    · have hlt : k < c := by omega
      obtain ⟨p, q, d1, d2, d3, d4, d5, d6⟩ := s4 k hlt
      have g : ¬ nI c ≤ nI k := nI_ge hlt (by omega)
      have e2 : (2 : Int32) * nI k = nI (2 * k) := pk_mul 2 k
      rw [if_neg g, if_neg g, if_neg (show ¬ (1 : Int32) = 0 by decide), at_in _ (show k < 6 by omega) (by decide), Option.bind_some, e2, show nI (2 * k) + (1 : Int32) = nI (2 * k + 1) from nI_1 _, if_neg (nI_ok (show 2 * k + 1 < 12 by omega) (by decide)), nI_cl (show 2 * k + 1 < 2147483648 by omega), show M_sight m (2 * k + 1) = nI q from d6, if_neg (nI_ok d2 (by decide)), if_neg (nI_ok (show 2 * k < 12 by omega) (by decide)), nI_cl (show 2 * k < 2147483648 by omega), nI_cl (show q < 2147483648 by omega), show M_sight m (2 * k) = nI p from d5, show M_now m q = _ from hm.2.1 q d2, show nI k + (1 : Int32) = nI (k + 1) from nI_1 k]
      show ∃ b : Bool, (f_X9_carOf w (S_people v k)).bind _ = _ ∧ _
      rw [show S_people v k = nI p from d3, w_carOf hw d1, Option.bind_some, at_in _ (show k < 6 by omega) (by decide), Option.bind_some]
      show ∃ b : Bool, (if enc (cr (a_rd a) p) = S_cars v k then _ else _) = _ ∧ _
      rw [show S_cars v k = nI q from d4]
      have hok := ha.2.2.2.2
      have t1 : enc (cr (a_rd a) p) = nI q ↔ a_rd a q = p := by
        rw [← enc_lt d2, enc_inj (cr_le _ _) (by omega)]
        exact cr_iff hok d1 d2
      have t2 : enc (a_rd a q) = nI p ↔ a_rd a q = p := by
        rw [← enc_lt d1]
        exact enc_inj (hok.1 q d2) (by omega)
      by_cases cc : a_rd a q = p
      · rw [if_pos (t1.mpr cc), if_pos (t2.mpr cc)]
        exact ih (k + 1) (by omega) (by omega)
      · rw [if_neg (fun z => cc (t1.mp z)), if_neg (fun z => cc (t2.mp z))]
        refine ⟨false, rfl, ?_⟩
        obtain ⟨n', rfl⟩ : ∃ z, n = z + 1 := ⟨n - 1, by omega⟩
        rw [f_X11_filled_L56, show M_sights m = nI c from s3]
        by_cases c3 : nI c ≤ nI (k + 1)
        · rw [if_pos c3]; rfl
        · rw [if_neg c3, if_pos rfl]; rfl
theorem fill_main {w : sW} {u : sP} {v : sS} {m0 : sM} {a : aW} (ha : okA a) (hw : relW w a) (h0 : rel0 m0 a) {len : Nat} {sg : Nat → Nat} (hP : relP u m0 len sg) (hcl : clean sg len) (hS : relS v m0) (v1 : Int32) : ∀ (n k c : Nat) (f : Int32) (t : sT) (m : sM), k ≤ 8 ^ askN sg len → 8 ^ askN sg len - k < n → c ≤ k → ((c = 0 ∧ f = -6) ∨ (0 < c ∧ ∃ q, q < 512 ∧ f = nI q)) → pM m0 m → ∃ r t' m', f_X10_filled_L38 w u v n v1 (nI (askN sg len)) (nI (8 ^ askN sg len)) (nI c) f (nI k) t = some (r, t') ∧ f_X11_filled_L29 n v1 (nI (8 ^ askN sg len)) (nI c) f (nI k) m = some (r, m') ∧ pM m0 m' := by
  have h3 := hcl.2
  have hpw : 8 ^ askN sg len ≤ 512 := by
    rcases (show askN sg len = 0 ∨ askN sg len = 1 ∨ askN sg len = 2 ∨ askN sg len = 3 by omega) with q | q | q | q <;> rw [q] <;> decide
  generalize hA : askN sg len = asked at *
  intro n
  induction n with
  | zero => intro k c f t m _ h; omega
  | succ n ih =>
    intro k c f t m hk hn hck hf hpm
    rw [f_X10_filled_L38, f_X11_filled_L29]
    by_cases e : k = 8 ^ asked
    · have g : nI (8 ^ asked) ≤ nI k := nI_le (by omega) (by omega)
      rw [if_pos g, if_pos g]
      by_cases e1 : v1 = -1
      · rw [if_pos e1, if_pos e1]; exact ⟨_, _, _, rfl, rfl, hpm⟩
      · rw [if_neg e1, if_neg e1]
        rcases hf with ⟨c0, rfl⟩ | ⟨c0, q, hq, rfl⟩
        · rw [if_pos (show nI c = (0 : Int32) by rw [c0]; rfl), if_pos (show (-6 : Int32) < 0 by decide), f_X10_filled_J105, if_neg (show ¬ (1 : Int32) = 0 by decide)]
          exact ⟨_, _, _, rfl, rfl, hpm⟩
        · have ho := m_opens (hP.p hpm)
          rw [hA] at ho
          rw [if_neg (show ¬ nI c = (0 : Int32) from nI_ne0 c0 (by omega)), if_neg (show ¬ nI q < 0 from nI_pos (by omega)), ho, Option.bind_some, Option.bind_some]
          show ∃ r t' m', _ ∧ ((f_X11_in v1 0 (nI asked - 1)).bind fun z9 => if z9.1 = 0 then some ((-6 : Int32), m) else (f_X11_powerOf (8 : Int32) (nI asked - (1 : Int32) - v1)).bind fun z12 => (if z12.1 = 0 then none else some (((nI q / z12.1) - (nI q / z12.1) / (8 : Int32) * (8 : Int32)), m))) = _ ∧ _
          have bad1 : f_X10_filled_J105 w u v v1 (nI asked) (nI q) (1 : Int32) t = some (-6, t) := by rw [f_X10_filled_J105, if_neg (show ¬ (1 : Int32) = 0 by decide)]
          rw [bad1]
          by_cases e2 : v1 < 0
          · rw [if_pos e2, f_X11_in, if_pos e2, Option.bind_some, i0]
            exact ⟨_, _, _, rfl, rfl, hpm⟩
          · obtain ⟨j, hj, rfl⟩ := nI_of e2
            rw [if_neg e2]
            by_cases e3 : j < asked
            · have g2 : f_X11_in (nI j) 0 (nI asked - 1) = some (1, ()) := by
                rw [f_X11_in, if_neg e2, show nI asked - (1 : Int32) = nI (asked - 1) from pk_sub (b := 1) (by omega), if_neg (nI_nlt (by omega) (by omega))]
              have hp1 : 0 < 8 ^ (asked - 1 - j) := Nat.pow_pos (by decide)
              have hp2 : 8 ^ (asked - 1 - j) ≤ 64 := by
                rcases (show asked - 1 - j = 0 ∨ asked - 1 - j = 1 ∨ asked - 1 - j = 2 by omega) with q | q | q <;> rw [q] <;> decide
              rw [if_pos (nI_lt e3 (by omega)), g2, Option.bind_some, i1, show nI asked - (1 : Int32) = nI (asked - 1) from pk_sub (b := 1) (by omega), pk_sub (show j ≤ asked - 1 by omega), show (8 : Int32) = nI 8 from rfl, x_pow 8 (show asked - 1 - j < 1000 by omega), Option.bind_some]
              show ∃ r t' m', _ ∧ (if nI (8 ^ (asked - 1 - j)) = 0 then _ else some (nI q / nI (8 ^ (asked - 1 - j)) - nI q / nI (8 ^ (asked - 1 - j)) / nI 8 * nI 8, m)) = _ ∧ _
              rw [if_neg (show ¬ nI (8 ^ (asked - 1 - j)) = (0 : Int32) from nI_ne0 (by omega) (by omega)), pk_div (by omega) (by omega) (by omega), pk_rem (Nat.lt_of_le_of_lt (Nat.div_le_self _ _) (by omega)) (by decide) (by decide), f_X10_filled_J105, if_pos rfl, pa_at hq h3 e3, Option.bind_some]
              exact ⟨_, _, _, rfl, rfl, hpm⟩
            · have g2 : f_X11_in (nI j) 0 (nI asked - 1) = some (0, ()) := by
                rw [f_X11_in, if_neg e2]
                by_cases e4 : asked = 0
                · rw [if_pos]
                  rw [e4, Int32.lt_iff_toInt_lt, nI_toInt hj]
                  have : (nI 0 - 1).toInt = -1 := by decide
                  omega
                · rw [show nI asked - (1 : Int32) = nI (asked - 1) from pk_sub (b := 1) (by omega), if_pos (nI_lt (by omega) hj)]
              rw [if_neg (nI_nlt (by omega) hj), g2, Option.bind_some, i0]
              exact ⟨_, _, _, rfl, rfl, hpm⟩
    · have hlt : k < 8 ^ asked := by omega
      have g : ¬ nI (8 ^ asked) ≤ nI k := nI_ge hlt (by omega)
      have hPm := hP.p hpm
      obtain ⟨c6, s1, s2, s3, s4⟩ := id hS
      obtain ⟨t', g3, g4, -⟩ := tell6 hP hcl hw ha t (code := k) (by omega)
      obtain ⟨m', g5, g6, g7, g8⟩ := go6 hPm hcl (h0.p hpm) ha (code := k) (by omega)
      have ho := oF_ge
      rw [if_neg g, if_neg g, g5, Option.bind_some, f_X10_holds, g3, Option.bind_some, show nI k + (1 : Int32) = nI (k + 1) from nI_1 k]
      have hSm : relS v m' := hS.o (by rw [g6.2.2.2.2.2.1, hpm.2.2.2.2.2.1]) (by rw [g6.2.2.2.2.2.2.1, hpm.2.2.2.2.2.2.1])
      by_cases e2 : (tell sg len k 60 a).1 = true
      · obtain ⟨d1, d2, -⟩ := g4 e2
        obtain ⟨d3, -⟩ := g7 e2
        obtain ⟨b, k1, k2⟩ := sights_L hSm d1 d3 d2 (f_X11_filled_L29 n) v1 (nI (8 ^ asked)) (nI c) f (nI k) s2 s1 oF 0 (Nat.zero_le _) (by omega)
        have k1 : f_X6_areTrue v (T_wheel t') = some (b2 b, ()) := k1
        have k2 : f_X11_filled_L56 (f_X11_filled_L29 n) oF v1 (nI (8 ^ asked)) (nI c) f (nI k) 1 0 m' = _ := k2
        rw [if_pos e2, e2, if_neg (show ¬ (b2 true, t').1 = 0 by show ¬ b2 true = 0; decide), if_neg (show ¬ 0 ≤ ((-6 : Int32), m').1 by show ¬ (0 : Int32) ≤ -6; decide)]
        show ∃ r t'' m'', Option.bind ((f_X6_areTrue v (T_wheel t')).bind _) _ = _ ∧ f_X11_filled_L56 (f_X11_filled_L29 n) oF v1 (nI (8 ^ asked)) (nI c) f (nI k) 1 0 m' = _ ∧ _
        rw [k1, k2, Option.bind_some, f_X11_filled_J111, show nI k + (1 : Int32) = nI (k + 1) from nI_1 k, show nI c + (1 : Int32) = nI (c + 1) from nI_1 c]
        cases b with
        | false =>
          rw [show b2 false = 0 from rfl, i0, Option.bind_some, i0', if_pos rfl]
          exact ih (k + 1) c f t' m' (by omega) (by omega) (by omega) hf (hpm.tr g6)
        | true =>
          rw [show b2 true = 1 from rfl, i1, Option.bind_some, i1', if_neg (show ¬ (1 : Int32) = 0 by decide)]
          rcases hf with ⟨c0, rfl⟩ | ⟨c0, q, hq, rfl⟩
          · rw [if_pos rfl, if_neg (show ¬ (0 : Int32) ≤ -6 by decide)]
            exact ih (k + 1) (c + 1) (nI k) t' m' (by omega) (by omega) (by omega) (Or.inr ⟨by omega, k, by omega, rfl⟩) (hpm.tr g6)
          · have n6 : ¬ nI q = -6 := fun z => by
              have : (nI q).toInt = (-6 : Int32).toInt := by rw [z]
              rw [nI_toInt (by omega)] at this
              have h6 : (-6 : Int32).toInt = -6 := by decide
              omega
            rw [if_neg n6, if_pos (nI_pos' (by omega))]
            exact ih (k + 1) (c + 1) (nI q) t' m' (by omega) (by omega) (by omega) (Or.inr ⟨by omega, q, hq, rfl⟩) (hpm.tr g6)
      · have e2' : (tell sg len k 60 a).1 = false := by simpa using e2
        obtain ⟨-, d2⟩ := g8 e2'
        have k2 : f_X11_filled_L56 (f_X11_filled_L29 n) oF v1 (nI (8 ^ asked)) (nI c) f (nI k) 0 0 m' = f_X11_filled_J111 (f_X11_filled_L29 n) v1 (nI (8 ^ asked)) (nI c) f (nI k) 0 m' := by
          generalize oF = N at ho ⊢
          obtain ⟨n', rfl⟩ : ∃ z, N = z + 1 := ⟨N - 1, by omega⟩
          rw [f_X11_filled_L56]
          by_cases c3 : M_sights m' ≤ 0
          · rw [if_pos c3]
          · rw [if_neg c3, if_pos rfl]
        rw [if_neg e2, e2', if_pos (show (b2 false, t').1 = 0 from rfl), Option.bind_some, i0', if_pos (show 0 ≤ (nI (tell sg len k 60 a).2.1, m').1 from nI_pos' (by omega))]
        show ∃ r t'' m'', _ ∧ f_X11_filled_L56 (f_X11_filled_L29 n) oF v1 (nI (8 ^ asked)) (nI c) f (nI k) 0 0 m' = _ ∧ _
        rw [k2, f_X11_filled_J111, if_pos rfl, show nI k + (1 : Int32) = nI (k + 1) from nI_1 k]
        exact ih (k + 1) c f t' m' (by omega) (by omega) (by omega) hf (hpm.tr g6)
theorem howM {k : Nat} (h : k ≤ 3) : f_X1_howMany (nI k) = some (nI (8 ^ k), ()) := by
  rcases (show k = 0 ∨ k = 1 ∨ k = 2 ∨ k = 3 by omega) with rfl | rfl | rfl | rfl <;> decide
theorem c_filled {w : sW} {u : sP} {v : sS} {j1 j2 : sI} {m : sM} (I : Inv w u v j1 j2 m) (t : sT) (x : Int32) : ∃ r t' m', f_X10_filled w u v t x = some (r, t') ∧ f_X11_filled m x = some (r, m') ∧ Inv w u v j1 j2 m' := by
  obtain ⟨⟨a, ha, hw, h0⟩, ⟨len, sg, hP⟩, hS, hI1, hI2⟩ := id I
  have ho := oF_ge
  have hl := hP.1
  unfold f_X10_filled f_X11_filled
  rw [p_fault hP, m_fault hP, Option.bind_some, Option.bind_some]
  show ∃ r t' m', (if fltI sg len 0 = -6 then _ else _) = _ ∧ (if fltI sg len 0 < 0 then _ else _) = _ ∧ _
  by_cases c : (flt sg len 0).2 = false
  · have hq := flt_clean c
    have h3 := hq.2
    have hpw : 8 ^ askN sg len ≤ 512 := by
      rcases (show askN sg len = 0 ∨ askN sg len = 1 ∨ askN sg len = 2 ∨ askN sg len = 3 by omega) with q | q | q | q <;> rw [q] <;> decide
    rw [if_pos ((fltI_no hl).mpr c), if_pos ((fltI_neg hl).mpr c), f_X4_asked, Option.bind_some, show P_asked u = nI (askN sg len) from hP.2.2.2.1, m_opens hP, Option.bind_some]
    show ∃ r t' m', (f_X1_howMany (nI (askN sg len))).bind _ = _ ∧ (f_X11_powerOf (nI 8) (nI (askN sg len))).bind _ = _ ∧ _
    rw [howM h3, x_pow 8 (by omega), Option.bind_some, Option.bind_some]
    obtain ⟨r, t', m', g1, g2, g3⟩ := fill_main ha hw h0 hP hq hS x oF 0 0 (-6) t m (Nat.zero_le _) (by omega) (by omega) (Or.inl ⟨rfl, rfl⟩) (pM.rf m)
    exact ⟨r, t', m', g1, g2, I.p g3⟩
  · rw [if_neg (fun q => c ((fltI_no hl).mp q)), if_neg (fun q => c ((fltI_neg hl).mp q))]
    exact ⟨_, _, _, rfl, rfl, I⟩
