/-! pebbles, brake, could -/
theorem encF {a : aW} (ha : okA a) {n : Nat} (hn : n ≤ 8) : enc n = nI (a_ft a) ↔ n = a_ft a := by
  rw [← enc_lt ha.1]
  exact enc_inj hn (Nat.le_of_lt ha.1)
theorem enc_ge {n : Nat} (h : n ≤ 8) : 0 ≤ enc n ↔ n ≠ 8 := by
  by_cases e : n = 8
  · rw [e]; exact ⟨fun q => absurd q (by decide), fun q => absurd rfl q⟩
  · rw [enc_lt (by omega)]; exact ⟨fun _ => e, fun _ => nI_pos' (by omega)⟩
theorem peb_L {w : sW} {m0 : sM} {a : aW} (ha : okA a) (hw : relW w a) (h0 : rel0 m0 a) {p : Nat} (hp : p < 8) : ∀ (n k : Nat) (t : sW) (m : sM), k ≤ 100 → 100 - k < n → pM m0 m → ∃ r t' m', f_X10_pebbles_L25 w n (nI p) (nI k) t = some (r, t') ∧ f_X11_pebbles_L26 n (nI p) (nI k) m = some (r, m') ∧ pM m0 m' := by
  intro n
  induction n with
  | zero => intro k t m _ h; omega
  | succ n ih =>
    intro k t m hk hn hpm
    rw [f_X10_pebbles_L25, f_X11_pebbles_L26]
    by_cases e : k = 100
    · subst e
      rw [if_pos (show (99 : Int32) < nI 100 by decide), if_pos (show (100 : Int32) ≤ nI 100 by decide)]
      exact ⟨_, _, _, rfl, rfl, hpm⟩
    · obtain ⟨t1, g1, g2⟩ := w_copyFrom hw t
      obtain ⟨t2, g3, g4⟩ := w_setLoad g2 ha.1 k
      have ha2 : okA (a_load a (a_ft a) k) := okA_load ha _ (by omega)
      obtain ⟨t3, g5, g6⟩ := w_letGo g4 ha2
      have ha3 := okA_foot ha2 (aLet_lt ha2)
      have g7 := w_isLowest g6 ha3 hp
      obtain ⟨m1, k1, k2, k3, -⟩ := x_asNow (h0.p hpm)
      obtain ⟨m2, k4, k5, k6, -⟩ := x_letGo (mHeap_rel k3 (a_ft a) k) ha2
      have k7 := x_carOf k6 ha3 hp
      have k8 : M_foot m2 = nI (a_ft (a_foot (a_load a (a_ft a) k) (aLet (a_load a (a_ft a) k)).2)) := k6.2.2.2.1
      have k4 : f_X11_letGo (M_weight m1, M_sits m1, M_stones m1, M_at m1, M_drag m1, M_sights m1, M_sight m1, M_signs m1, M_pad m1, M_foot m1, M_turned m1, M_bothWays m1, M_now m1, upd (M_heap m1) (a_ft a) (nI k), M_reason m1, M_image m1, M_isKept m1) = some m2 := k4
      have hle := cr_le (a_rd (a_foot (a_load a (a_ft a) k) (aLet (a_load a (a_ft a) k)).2)) p
      rw [if_neg (show ¬ (99 : Int32) < nI k from nI_nlt (a := 99) (by omega) (by decide)), if_neg (show ¬ (100 : Int32) ≤ nI k from nI_ge (b := 100) (by omega) (by decide)), g1, Option.bind_some, f_X9_lowest, Option.bind_some, show W_lowest t1 = nI (a_ft a) from g2.2.2.2.2.1, g3, Option.bind_some, g5, Option.bind_some, k1, Option.bind_some, if_neg (foot_ok k3 ha), foot_cl k3 ha, k4, Option.bind_some, k7, Option.bind_some, k8]
      show ∃ r t' m', (f_X9_isLowest t3 (nI p)).bind _ = _ ∧ (if enc (cr (a_rd (a_foot (a_load a (a_ft a) k) (aLet (a_load a (a_ft a) k)).2)) p) = nI (a_ft (a_foot (a_load a (a_ft a) k) (aLet (a_load a (a_ft a) k)).2)) then _ else _) = _ ∧ _
      rw [g7, Option.bind_some]
      by_cases c : cr (a_rd (a_foot (a_load a (a_ft a) k) (aLet (a_load a (a_ft a) k)).2)) p = a_ft (a_foot (a_load a (a_ft a) k) (aLet (a_load a (a_ft a) k)).2)
      · rw [if_pos c, if_pos ((encF ha3 hle).mpr c), i1']
        exact ⟨_, _, _, rfl, rfl, hpm.tr (k2.tr ((mHeap_p _ _ _).tr k5))⟩
      · rw [if_neg c, if_neg (fun q => c ((encF ha3 hle).mp q)), i0', show nI k + (1 : Int32) = nI (k + 1) from nI_1 k]
        exact ih (k + 1) t3 m2 (by omega) (by omega) (hpm.tr (k2.tr ((mHeap_p _ _ _).tr k5)))
theorem c_pebbles {w : sW} {u : sP} {v : sS} {j1 j2 : sI} {m : sM} (I : Inv w u v j1 j2 m) (t : sW) (x : Int32) : ∃ r t' m', f_X10_pebbles w t x = some (r, t') ∧ f_X11_pebbles m x = some (r, m') ∧ Inv w u v j1 j2 m' := by
  obtain ⟨⟨a, ha, hw, h0⟩, -⟩ := id I
  have ho := oF_ge
  unfold f_X10_pebbles f_X11_pebbles
  rcases per_c x with ⟨k, hk, rfl, q1, -, q3⟩ | ⟨-, q1, -, q3⟩
  · obtain ⟨m1, k1, k2, k3, -⟩ := x_asNow h0
    have hle := cr_le (a_rd a) k
    rw [q1, q3, Option.bind_some, Option.bind_some, i1, i1, w_isAboard hw hk, Option.bind_some, k1, Option.bind_some, x_carOf k3 ha hk, Option.bind_some]
    show ∃ r t' m', _ ∧ (if 0 ≤ enc (cr (a_rd a) k) then _ else _) = _ ∧ _
    by_cases c : cr (a_rd a) k = 8
    · rw [if_pos c, i0', if_neg (fun q => (enc_ge hle).mp q c)]
      exact ⟨_, _, _, rfl, rfl, I.p k2⟩
    · rw [if_neg c, i1', if_pos ((enc_ge hle).mpr c)]
      obtain ⟨r, t', m', g1, g2, g3⟩ := peb_L ha hw h0 hk oF 0 t m1 (Nat.zero_le _) (by omega) k2
      exact ⟨r, t', m', g1, g2, I.p g3⟩
  · rw [q1, q3, Option.bind_some, Option.bind_some, i0, i0]
    exact ⟨_, _, _, rfl, rfl, I⟩
/-- the greatest pull -/
def aG (a : aW) : Nat → Int
  | 0 => 0
  | n + 1 => if aG a n < (if 0 ≤ aP a n then aP a n else -aP a n) then (if 0 ≤ aP a n then aP a n else -aP a n) else aG a n
theorem aG_bd {a : aW} (ha : okA a) : ∀ n, 0 ≤ aG a n ∧ aG a n ≤ 15840
  | 0 => ⟨Int.le_refl 0, by show (0 : Int) ≤ 15840; decide⟩
  | n + 1 => by
    have h1 := aG_bd ha n
    have h2 := aP_bd ha n
    rw [aG]
    repeat (first | omega | split)
theorem w_great_L {u : sW} {a : aW} (h : relW u a) (ha : okA a) : ∀ (n c : Nat), c ≤ 8 → 8 - c < n → f_X9_greatestPull_L4 u n (iI (aG a c)) (nI c) = some (iI (aG a 8), ()) := by
  intro n
  induction n with
  | zero => intro c _ q; omega
  | succ n ih =>
    intro c hc hn
    rw [f_X9_greatestPull_L4]
    by_cases e : c = 8
    · rw [e, if_pos (show (8 : Int32) ≤ nI 8 by decide)]
    · have hlt : c < 8 := by omega
      have b1 := aG_bd ha c
      have b2 := aP_bd ha c
      rw [if_neg (show ¬ (8 : Int32) ≤ nI c from nI_ge hlt (by decide)), w_pullAt h ha hlt, Option.bind_some, show nI c + (1 : Int32) = nI (c + 1) from nI_1 c]
      have := ih (c + 1) (by omega) (by omega)
      rw [← this]
      show f_X9_greatestPull_L4 u n (if iI (aG a c) < (if 0 ≤ iI (aP a c) then iI (aP a c) else 0 - iI (aP a c)) then (if 0 ≤ iI (aP a c) then iI (aP a c) else 0 - iI (aP a c)) else iI (aG a c)) (nI (c + 1)) = _
      have k1 : (if 0 ≤ iI (aP a c) then iI (aP a c) else 0 - iI (aP a c)) = iI (if 0 ≤ aP a c then aP a c else -aP a c) := by
        rw [show (0 : Int32) = iI 0 from rfl]
        by_cases q : 0 ≤ aP a c
        · rw [if_pos ((iI_le (by omega) (by omega) (by omega) (by omega)).mpr q), if_pos q]
        · rw [if_neg (fun z => q ((iI_le (by omega) (by omega) (by omega) (by omega)).mp z)), if_neg q, iI_sub]
          congr 1
          omega
      rw [k1, aG]
      have b3 : 0 ≤ (if 0 ≤ aP a c then aP a c else -aP a c) ∧ (if 0 ≤ aP a c then aP a c else -aP a c) ≤ 15840 := by
        repeat (first | omega | split)
      by_cases q : aG a c < (if 0 ≤ aP a c then aP a c else -aP a c)
      · rw [if_pos ((iI_lt (by omega) (by omega) (by omega) (by omega)).mpr q), if_pos q]
      · rw [if_neg (fun z => q ((iI_lt (by omega) (by omega) (by omega) (by omega)).mp z)), if_neg q]
theorem w_great {u : sW} {a : aW} (h : relW u a) (ha : okA a) : f_X9_greatestPull u = some (iI (aG a 8), ()) :=
  w_great_L h ha oF 0 (Nat.zero_le _) (by have := oF_ge; omega)
theorem x_great_L {u : sM} {a : aW} (h : relM u a) (ha : okA a) : ∀ (n c : Nat), c ≤ 8 → 8 - c < n → f_X11_greatestPull_L4 u n (iI (aG a c)) (nI c) = some (iI (aG a 8), ()) := by
  intro n
  induction n with
  | zero => intro c _ q; omega
  | succ n ih =>
    intro c hc hn
    rw [f_X11_greatestPull_L4]
    by_cases e : c = 8
    · rw [e, if_pos (show (8 : Int32) ≤ nI 8 by decide)]
    · have hlt : c < 8 := by omega
      have b1 := aG_bd ha c
      have b2 := aP_bd ha c
      rw [if_neg (show ¬ (8 : Int32) ≤ nI c from nI_ge hlt (by decide)), x_pullAt h ha hlt, Option.bind_some]
      have := ih (c + 1) (by omega) (by omega)
      rw [← this, aG]
      have b3 : 0 ≤ (if 0 ≤ aP a c then aP a c else -aP a c) ∧ (if 0 ≤ aP a c then aP a c else -aP a c) ≤ 15840 := by
        repeat (first | omega | split)
      have fin : ∀ z : Int, z = (if 0 ≤ aP a c then aP a c else -aP a c) → f_X11_greatestPull_J26 u (f_X11_greatestPull_L4 u n) (iI (aG a c)) (nI c) (iI z) = f_X11_greatestPull_L4 u n (iI (if aG a c < (if 0 ≤ aP a c then aP a c else -aP a c) then (if 0 ≤ aP a c then aP a c else -aP a c) else aG a c)) (nI (c + 1)) := by
        intro z hz
        rw [f_X11_greatestPull_J26, hz, show nI c + (1 : Int32) = nI (c + 1) from nI_1 c]
        by_cases q : aG a c < (if 0 ≤ aP a c then aP a c else -aP a c)
        · rw [if_neg (fun z => by rw [iI_le (by omega) (by omega) (by omega) (by omega)] at z; omega), if_pos q]
        · rw [if_pos ((iI_le (by omega) (by omega) (by omega) (by omega)).mpr (by omega)), if_neg q]
      show (if 0 ≤ iI (aP a c) then f_X11_greatestPull_J26 u (f_X11_greatestPull_L4 u n) (iI (aG a c)) (nI c) (iI (aP a c)) else f_X11_greatestPull_J26 u (f_X11_greatestPull_L4 u n) (iI (aG a c)) (nI c) (-iI (aP a c))) = _
      rw [show (0 : Int32) = iI 0 from rfl]
      by_cases q : 0 ≤ aP a c
      · rw [if_pos ((iI_le (by omega) (by omega) (by omega) (by omega)).mpr q)]
        exact fin _ (by rw [if_pos q])
      · rw [if_neg (fun z => q ((iI_le (by omega) (by omega) (by omega) (by omega)).mp z)), iI_neg]
        exact fin _ (by rw [if_neg q])
theorem x_great {u : sM} {a : aW} (h : relM u a) (ha : okA a) : f_X11_greatestPull u = some (iI (aG a 8), ()) :=
  x_great_L h ha oF 0 (Nat.zero_le _) (by have := oF_ge; omega)
theorem c_brake {w : sW} {u : sP} {v : sS} {j1 j2 : sI} {m : sM} (I : Inv w u v j1 j2 m) : ∃ r m', f_X10_brake w = some (r, ()) ∧ f_X11_brake m = some (r, m') ∧ Inv w u v j1 j2 m' := by
  obtain ⟨⟨a, ha, hw, h0⟩, -⟩ := id I
  obtain ⟨m1, g1, g2, g3, -⟩ := x_asNow h0
  refine ⟨iI (aG a 8), m1, ?_, ?_, I.p g2⟩
  · rw [f_X10_brake, w_great hw ha]; rfl
  · rw [f_X11_brake, g1, Option.bind_some, x_great g3 ha]; rfl
/-! could -/
def mWgt (m : sM) (p : Nat) (x : Int32) : sM := (upd (M_weight m) p x, M_sits m, M_stones m, M_at m, M_drag m, M_sights m, M_sight m, M_signs m, M_pad m, M_foot m, M_turned m, M_bothWays m, M_now m, M_heap m, M_reason m, M_image m, M_isKept m)
theorem upd_upd (f : Fn) (k : Nat) (x y : Int32) : upd (upd f k x) k y = upd f k y := by
  funext j
  rw [upd_at, upd_at, upd_at]
  by_cases e : j = k
  · rw [if_pos e, if_pos e]
  · rw [if_neg e, if_neg e, if_neg e]
theorem upd_id (f : Fn) (k : Nat) : upd f k (f k) = f := by
  funext j
  rw [upd_at]
  by_cases e : j = k
  · rw [if_pos e, e]
  · rw [if_neg e]
theorem mWgt_p {m0 m : sM} {p : Nat} {y : Int32} (h : pM (mWgt m0 p y) m) (x : Int32) : pM (mWgt m0 p x) (mWgt m p x) := by
  obtain ⟨a1, a2, a3, a4, a5, a6, a7, a8, a9, a10, a11⟩ := h
  refine ⟨?_, a2, a3, a4, a5, a6, a7, a8, a9, a10, a11⟩
  show upd (M_weight m) p x = upd (M_weight m0) p x
  rw [a1]
  exact upd_upd _ _ _ _
theorem mWgt_id (m : sM) (p : Nat) : mWgt m p (M_weight m p) = m := by
  unfold mWgt
  rw [upd_id]
theorem cou_L {w : sW} {u : sP} {m0 : sM} {a : aW} (ha : okA a) (hw : relW w a) (h0 : rel0 m0 a) {len : Nat} {sg : Nat → Nat} (hP : relP u m0 len sg) (hc : clean sg len) {p : Nat} (hp : p < 8) (v2 v3 : Int32) : ∀ (n k c : Nat) (v6 v7 : Int32) (t : sW) (tt : sT) (m : sM) (y : Int32), k ≤ 100 → 100 - k < n → 1 ≤ k → c < k → ((c = 0 ∧ v6 = -6) ∨ (0 < c ∧ 0 ≤ v6)) → pM (mWgt m0 p y) m → ∃ r t' tt' m', f_X10_could_L56 w u n (nI p) v2 v3 (nI c) v6 v7 (nI k) t tt = some (r, (t', tt')) ∧ f_X11_could_L70 n (nI p) v2 v3 (M_weight m0 p) (nI c) v6 v7 (nI k) m = some (r, m') ∧ pM m0 m' := by
  have h60 := hP.1
  intro n
  induction n with
  | zero => intro k c v6 v7 t tt m y _ h; omega
  | succ n ih =>
    intro k c v6 v7 t tt m y hk hn hk1 hck hv hpm
    rw [f_X10_could_L56, f_X11_could_L70]
    have g2 : ¬ (nI p < 0 ∨ 8 ≤ (nI p).toNatClampNeg) := nI_ok hp (by decide)
    have hcl : (nI p).toNatClampNeg = p := nI_cl (by omega)
    rw [if_neg g2, if_neg g2, hcl]
    by_cases e : k = 100
    · subst e
      have hfin : pM m0 (mWgt m p (M_weight m0 p)) := by
        have := mWgt_p hpm (M_weight m0 p)
        rw [mWgt_id] at this
        exact this
      rw [if_pos (show (99 : Int32) < nI 100 by decide), if_pos (show (100 : Int32) ≤ nI 100 by decide)]
      by_cases c0 : v3 = 0
      · rw [if_pos c0, if_pos c0]; exact ⟨_, _, _, _, rfl, rfl, hfin⟩
      · rw [if_neg c0, if_neg c0]
        by_cases c1 : v3 = 1
        · rw [if_pos c1, if_pos c1]; exact ⟨_, _, _, _, rfl, rfl, hfin⟩
        · rw [if_neg c1, if_neg c1]; exact ⟨_, _, _, _, rfl, rfl, hfin⟩
    · have ha2 : okA (a_wgt a p k) := okA_wgt ha p hk1 (by omega)
      have hq := mWgt_p hpm (nI k)
      have hr0 : rel0 (mWgt m0 p (nI k)) (a_wgt a p k) := ⟨upd_wt h0.1 p k, h0.2⟩
      have hP0 : relP u (mWgt m0 p (nI k)) len sg := hP.o rfl rfl
      obtain ⟨t1, g3, g4⟩ := w_copyFrom hw t
      obtain ⟨t2, g5, g6⟩ := w_setWeight g4 hp k
      obtain ⟨t', g7, g8, -⟩ := tell6 hP0 hc g6 ha2 tt (code := 0) (by omega)
      obtain ⟨m', g10, g11, g12, g13⟩ := go6 (hP0.p hq) hc (hr0.p hq) ha2 (code := 0) (by omega)
      have g7 : f_X7_tell tt t2 u (-6 : Int32) 0 = _ := g7
      have g10 : f_X11_goText (upd (M_weight m) p (nI k), M_sits m, M_stones m, M_at m, M_drag m, M_sights m, M_sight m, M_signs m, M_pad m, M_foot m, M_turned m, M_bothWays m, M_now m, M_heap m, M_reason m, M_image m, M_isKept m) 0 (-6 : Int32) = _ := g10
      rw [if_neg (show ¬ (99 : Int32) < nI k from nI_nlt (a := 99) (by omega) (by decide)), if_neg (show ¬ (100 : Int32) ≤ nI k from nI_ge (b := 100) (by omega) (by decide)), f_X10_endsAt, g3, Option.bind_some, g5, Option.bind_some, g7, Option.bind_some, g10, Option.bind_some, show nI k + (1 : Int32) = nI (k + 1) from nI_1 k]
      by_cases e2 : (tell sg len 0 60 (a_wgt a p k)).1 = true
      · obtain ⟨d1, d2, -⟩ := g8 e2
        obtain ⟨d3, -⟩ := g12 e2
        rw [if_pos e2, e2, if_neg (show ¬ (b2 true, t').1 = 0 by show ¬ b2 true = 0; decide), f_X9_lowest, Option.bind_some, if_neg (show ¬ 0 ≤ ((-6 : Int32), m').1 by show ¬ (0 : Int32) ≤ -6; decide)]
        show ∃ r t'' tt'' m'', Option.bind (if W_lowest (T_wheel t') = v2 then _ else _) _ = _ ∧ (if M_foot m' = v2 then _ else _) = _ ∧ _
        rw [show W_lowest (T_wheel t') = _ from d1.2.2.2.2.1, show M_foot m' = _ from d3.2.2.2.1]
        by_cases e3 : nI (a_ft (tell sg len 0 60 (a_wgt a p k)).2.2.2.1) = v2
        · rw [if_pos e3, if_pos e3, Option.bind_some, i1', show nI c + (1 : Int32) = nI (c + 1) from nI_1 c]
          rcases hv with ⟨c0, rfl⟩ | ⟨c0, c1⟩
          · rw [if_pos rfl, if_pos (show nI c = (0 : Int32) by rw [c0]; rfl)]
            exact ih (k + 1) (c + 1) (nI k) (nI k) t2 t' m' (nI k) (by omega) (by omega) (by omega) (by omega) (Or.inr ⟨by omega, nI_pos' (by omega)⟩) (hq.tr g11)
          · have n6 : ¬ v6 = -6 := fun q => by rw [q] at c1; exact absurd c1 (by decide)
            rw [if_neg n6, if_neg (show ¬ nI c = (0 : Int32) from nI_ne0 c0 (by omega))]
            exact ih (k + 1) (c + 1) v6 (nI k) t2 t' m' (nI k) (by omega) (by omega) (by omega) (by omega) (Or.inr ⟨by omega, c1⟩) (hq.tr g11)
        · rw [if_neg e3, if_neg e3, Option.bind_some, i0']
          exact ih (k + 1) c v6 v7 t2 t' m' (nI k) (by omega) (by omega) (by omega) (by omega) hv (hq.tr g11)
      · have e2' : (tell sg len 0 60 (a_wgt a p k)).1 = false := by simpa using e2
        obtain ⟨-, d2⟩ := g13 e2'
        rw [if_neg e2, e2', if_pos (show (b2 false, t').1 = 0 from rfl), Option.bind_some, i0', if_pos (show 0 ≤ (nI (tell sg len 0 60 (a_wgt a p k)).2.1, m').1 from nI_pos' (by omega))]
        exact ih (k + 1) c v6 v7 t2 t' m' (nI k) (by omega) (by omega) (by omega) (by omega) hv (hq.tr g11)
theorem c_could {w : sW} {u : sP} {v : sS} {j1 j2 : sI} {m : sM} (I : Inv w u v j1 j2 m) (t : sW) (tt : sT) (p c x : Int32) : ∃ r t' tt' m', f_X10_could w t u tt p c x = some (r, (t', tt')) ∧ f_X11_could m p c x = some (r, m') ∧ Inv w u v j1 j2 m' := by
  obtain ⟨⟨a, ha, hw, h0⟩, ⟨len, sg, hP⟩, hS, hI1, hI2⟩ := id I
  have ho := oF_ge
  unfold f_X10_could f_X11_could
  rcases per_c p with ⟨k, hk, rfl, q1, -, q3⟩ | ⟨-, q1, -, q3⟩
  · rw [q1, q3, Option.bind_some, Option.bind_some, i1, i1]
    rcases per_c c with ⟨k2, hk2, rfl, -, q1, q3⟩ | ⟨-, -, q1, q3⟩
    · rw [q1, q3, Option.bind_some, Option.bind_some, i1, i1]
      rcases rng x (lo := 0) (hi := 2) 0 2 rfl rfl (by omega) (by omega) with ⟨r1, r2⟩ | ⟨r1, r2, -, r3⟩ | ⟨r1, r2, -, r3, -⟩
      · rw [if_pos r1, r2, Option.bind_some, i0]; exact ⟨_, _, _, _, rfl, rfl, I⟩
      · rw [if_neg r1, if_neg r2, r3, Option.bind_some, i0]; exact ⟨_, _, _, _, rfl, rfl, I⟩
      · rw [if_neg r1, if_pos r2, r3, Option.bind_some, i1]
        rcases bar_c hP with ⟨q1, z, q2, q3⟩ | ⟨q1, ⟨z, q2, q3⟩, z2, q4, q5⟩ | ⟨q1, ⟨z, q2, q3⟩, q4, q5, q6⟩
        · rw [q1, q2, Option.bind_some, Option.bind_some, if_neg (show ¬ ((-5 : Int32), ()).1 = 0 by decide), if_neg (show ¬ (z, ()).1 < 0 from q3)]
          exact ⟨_, _, _, _, rfl, rfl, I⟩
        · rw [q1, q2, Option.bind_some, Option.bind_some, if_neg (show ¬ ((-3 : Int32), ()).1 = 0 by decide), if_pos (show (z, ()).1 < 0 from q3), q4, Option.bind_some, if_neg (show ¬ (z2, ()).1 ≤ 0 from q5)]
          exact ⟨_, _, _, _, rfl, rfl, I⟩
        · rw [q1, q2, Option.bind_some, Option.bind_some, i0, if_pos (show (z, ()).1 < 0 from q3), q4, Option.bind_some, if_pos (show ((0 : Int32), ()).1 ≤ 0 by decide), if_neg (nI_ok hk (by decide)), nI_cl (show k < 2147483648 by omega)]
          have hpm : pM (mWgt m k (M_weight m k)) m := by rw [mWgt_id]; exact pM.rf m
          obtain ⟨r, t', tt', m', g1, g2, g3⟩ := cou_L ha hw h0 hP q5 hk (nI k2) x oF 1 0 (-6) (-6) t tt m (M_weight m k) (by omega) (by omega) (by omega) (by omega) (Or.inl ⟨rfl, rfl⟩) hpm
          exact ⟨r, t', tt', m', g1, g2, I.p g3⟩
    · rw [q1, q3, Option.bind_some, Option.bind_some, i0, i0]
      exact ⟨_, _, _, _, rfl, rfl, I⟩
  · rw [q1, q3, Option.bind_some, Option.bind_some, i0, i0]
    exact ⟨_, _, _, _, rfl, rfl, I⟩
