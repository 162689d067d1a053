/-! the whole text, told by the reference -/
theorem g_447t {K : Int32 → Int32 → Int32 → Int32 → sM → Option (Int32 × sM)} {v1 v2 v3 v4 : Int32} {m : sM} (h : M_reason m = 0) : f_X11_goText_J447 K v1 v2 v3 v4 m = K v1 v2 v3 (v4 + 1) m := by
  rw [f_X11_goText_J447, show M_reason m = 0 from h, if_pos (show (0 : Int32) ≤ 0 by decide)]
theorem g_447f {K : Int32 → Int32 → Int32 → Int32 → sM → Option (Int32 × sM)} {v1 v2 v3 v4 : Int32} {m : sM} {r : Nat} (h : M_reason m = nI r) (h0 : 0 < r) (h1 : r < 100) : f_X11_goText_J447 K v1 v2 v3 v4 m = some (v4, m) := by
  rw [f_X11_goText_J447, show M_reason m = nI r from h, if_neg (nI_nle h0 (by omega))]
/-- the state with another one in the lowest car, another load, another reason -/
def mNow (m : sM) (k : Nat) (x : Int32) : sM := (M_weight m, M_sits m, M_stones m, M_at m, M_drag m, M_sights m, M_sight m, M_signs m, M_pad m, M_foot m, M_turned m, M_bothWays m, upd (M_now m) k x, M_heap m, M_reason m, M_image m, M_isKept m)
def mHeap (m : sM) (k : Nat) (x : Int32) : sM := (M_weight m, M_sits m, M_stones m, M_at m, M_drag m, M_sights m, M_sight m, M_signs m, M_pad m, M_foot m, M_turned m, M_bothWays m, M_now m, upd (M_heap m) k x, M_reason m, M_image m, M_isKept m)
def mRea (m : sM) (x : Int32) : sM := (M_weight m, M_sits m, M_stones m, M_at m, M_drag m, M_sights m, M_sight m, M_signs m, M_pad m, M_foot m, M_turned m, M_bothWays m, M_now m, M_heap m, x, M_image m, M_isKept m)
theorem mNow_rel {m : sM} {a : aW} (h : relM m a) (c q : Nat) : relM (mNow m c (enc q)) (a_seat a c q) := by
  refine ⟨h.1, fun k hk => ?_, h.2.2.1, h.2.2.2.1, h.2.2.2.2⟩
  show upd (M_now m) c (enc q) k = enc (un (a_rd a) c q k)
  rw [upd_at]
  by_cases e : k = c
  · rw [if_pos e, e, un_s]
  · rw [if_neg e, un_n e]; exact h.2.1 k hk
theorem mHeap_rel {m : sM} {a : aW} (h : relM m a) (c n : Nat) : relM (mHeap m c (nI n)) (a_load a c n) := by
  refine ⟨h.1, h.2.1, fun k hk => ?_, h.2.2.2.1, h.2.2.2.2⟩
  show upd (M_heap m) c (nI n) k = nI (un (a_ld a) c n k)
  rw [upd_at]
  by_cases e : k = c
  · rw [if_pos e, e, un_s]
  · rw [if_neg e, un_n e]; exact h.2.2.1 k hk
theorem mRea_rel {m : sM} {a : aW} (h : relM m a) (x : Int32) : relM (mRea m x) a := h
theorem mNow_p (m : sM) (k : Nat) (x : Int32) : pM m (mNow m k x) := pM.rf m
theorem mHeap_p (m : sM) (k : Nat) (x : Int32) : pM m (mHeap m k x) := pM.rf m
theorem mRea_p (m : sM) (x : Int32) : pM m (mRea m x) := pM.rf m
abbrev gK : Type := Int32 → Int32 → Int32 → Int32 → sM → Option (Int32 × sM)
theorem g_197 {K : gK} {v1 v2 v3 v4 x y : Int32} {m : sM} {f : Nat} (hf : f < 8) (hy : y = nI f) : f_X11_goText_J197 K v1 v2 v3 v4 y x m = f_X11_goText_J447 K v1 v2 v3 v4 (mNow m f x) := by
  subst hy
  rw [f_X11_goText_J197, if_neg (nI_ok hf (by decide)), nI_cl (by omega)]
  rfl
theorem g_188 {K : gK} {v1 v2 v3 v4 y : Int32} {m : sM} {f : Nat} (hf : f < 8) (hy : y = nI f) (hm : M_foot m = nI f) : f_X11_goText_J188 K v1 v2 v3 v4 y m = f_X11_goText_J447 K v1 v2 v3 v4 (mNow m f (M_now m f)) := by
  rw [f_X11_goText_J188, show M_foot m = nI f from hm, if_neg (nI_ok hf (by decide)), nI_cl (show f < 2147483648 by omega)]
  exact g_197 hf hy
theorem g_280 {K : gK} {v1 v2 v3 v4 x y : Int32} {m : sM} {f : Nat} (hf : f < 8) (hy : y = nI f) : f_X11_goText_J280 K v1 v2 v3 v4 y x m = f_X11_goText_J447 K v1 v2 v3 v4 (mNow m f x) := by
  subst hy
  rw [f_X11_goText_J280, if_neg (nI_ok hf (by decide)), nI_cl (by omega)]
  rfl
theorem g_271 {K : gK} {v1 v2 v3 v4 y : Int32} {m : sM} {f : Nat} (hf : f < 8) (hy : y = nI f) (hm : M_foot m = nI f) : f_X11_goText_J271 K v1 v2 v3 v4 y m = f_X11_goText_J447 K v1 v2 v3 v4 (mNow m f (M_now m f)) := by
  rw [f_X11_goText_J271, show M_foot m = nI f from hm, if_neg (nI_ok hf (by decide)), nI_cl (show f < 2147483648 by omega)]
  exact g_280 hf hy
theorem g_374 {K : gK} {v1 v2 v3 v4 x y : Int32} {m : sM} {f : Nat} (hf : f < 8) (hy : y = nI f) : f_X11_goText_J374 K v1 v2 v3 v4 y x m = f_X11_goText_J447 K v1 v2 v3 v4 (mHeap m f x) := by
  subst hy
  rw [f_X11_goText_J374, if_neg (nI_ok hf (by decide)), nI_cl (by omega)]
  rfl
theorem g_445 {K : gK} {v1 v2 v3 v4 x z y : Int32} {m : sM} {f : Nat} (hf : f < 8) (hy : y = nI f) : f_X11_goText_J445 K v1 v2 v3 v4 y x z m = f_X11_goText_J447 K v1 v2 v3 v4 (mHeap m f (x + z)) := by
  subst hy
  rw [f_X11_goText_J445, if_neg (nI_ok hf (by decide)), nI_cl (by omega)]
  rfl
/-- what an event leaves: it goes on with K, or the text ends there -/
def gRes (K : gK) (v1 v2 v3 : Int32) (i : Nat) (m0 : sM) (a' : aW) (r : Nat) (tt : Int32) (R : Option (Int32 × sM)) : Prop :=
  ∃ m', pM m0 m' ∧ M_turned m' = tt ∧ ((r = 0 ∧ M_reason m' = 0 ∧ relM m' a' ∧ R = K v1 v2 v3 (nI (i + 1)) m') ∨ (0 < r ∧ M_reason m' = nI r ∧ R = some (nI i, m')))
theorem g_end {K : gK} {v1 v2 v3 : Int32} {i : Nat} {m m0 : sM} {a' : aW} {r : Nat} (hr : r < 100) (h1 : pM m0 m) (h2 : M_reason m = nI r) (h3 : r = 0 → relM m a') : gRes K v1 v2 v3 i m0 a' r (M_turned m) (f_X11_goText_J447 K v1 v2 v3 (nI i) m) := by
  refine ⟨m, h1, rfl, ?_⟩
  by_cases e : r = 0
  · subst e
    refine Or.inl ⟨rfl, h2, h3 rfl, ?_⟩
    rw [g_447t (show M_reason m = 0 from h2), show nI i + (1 : Int32) = nI (i + 1) from nI_1 i]
  · exact Or.inr ⟨by omega, h2, g_447f h2 (by omega) hr⟩
theorem now_same {m : sM} {a : aW} (h : relM m a) {f : Nat} (hf : f < 8) : relM (mNow m f (M_now m f)) a := by
  have e : upd (M_now m) f (M_now m f) = M_now m := by
    funext k
    rw [upd_at]
    by_cases q : k = f
    · rw [if_pos q, q]
    · rw [if_neg q]
  refine ⟨h.1, fun k hk => ?_, h.2.2.1, h.2.2.2.1, h.2.2.2.2⟩
  show upd (M_now m) f (M_now m f) k = _
  rw [e]; exact h.2.1 k hk
theorem heap_same {m : sM} {a : aW} (h : relM m a) {f : Nat} (hf : f < 8) {x : Int32} (hx : x = M_heap m f) : relM (mHeap m f x) a := by
  have e : upd (M_heap m) f x = M_heap m := by
    funext k
    rw [upd_at, hx]
    by_cases q : k = f
    · rw [if_pos q, q]
    · rw [if_neg q]
  refine ⟨h.1, h.2.1, fun k hk => ?_, h.2.2.2.1, h.2.2.2.2⟩
  show upd (M_heap m) f x k = _
  rw [e]; exact h.2.2.1 k hk
/-- somebody gets in: the left-out event -/
theorem g_159b {K : gK} {v1 v3 x : Int32} {i : Nat} {m : sM} {a : aW} (h : relM m a) (ha : okA a) (hi : i < 60) : gRes K v1 (eb i) v3 i m a 0 (M_turned m) (f_X11_goText_J159 K v1 (eb i) v3 (nI i) x (0 : Int32) m) := by
  have hft : M_foot m = nI (a_ft a) := h.2.2.2.1
  rw [f_X11_goText_J159, if_pos rfl, if_pos ((eb_iff hi).mpr rfl)]
  have e := g_188 (K := K) (v1 := v1) (v2 := eb i) (v3 := v3) (v4 := nI i) (y := M_foot m) (m := mRea m 0) ha.1 hft hft
  have h2 := g_end (K := K) (v1 := v1) (v2 := eb i) (v3 := v3) (i := i) (m0 := m) (a' := a) (r := 0) (m := mNow (mRea m 0) (a_ft a) (M_now (mRea m 0) (a_ft a))) (by omega) (pM.rf m) rfl (fun _ => now_same (m := mRea m 0) h ha.1)
  rw [← e] at h2
  exact h2
theorem g_159 {K : gK} {v1 v3 : Int32} {i but p r : Nat} {m : sM} {a : aW} (h : relM m a) (ha : okA a) (hi : i < 60) (hp : p < 8) (e : i ≠ but) (hr : r ≤ 2) : gRes K v1 (eb but) v3 i m (a_seat a (a_ft a) p) r (M_turned m) (f_X11_goText_J159 K v1 (eb but) v3 (nI i) (nI p) (nI r) m) := by
  have hft : M_foot m = nI (a_ft a) := h.2.2.2.1
  rw [f_X11_goText_J159]
  by_cases er : r = 0
  · subst er
    rw [if_pos (show nI 0 = (0 : Int32) from rfl), if_neg (fun q => e ((eb_iff hi).mp q))]
    have e2 := g_197 (K := K) (v1 := v1) (v2 := eb but) (v3 := v3) (v4 := nI i) (x := nI p) (y := M_foot m) (m := mRea m (nI 0)) ha.1 hft
    have h2 := g_end (K := K) (v1 := v1) (v2 := eb but) (v3 := v3) (i := i) (m0 := m) (a' := a_seat a (a_ft a) p) (r := 0) (m := mNow (mRea m (nI 0)) (a_ft a) (nI p)) (by omega) (pM.rf m) rfl (fun _ => by rw [← enc_lt hp]; exact mNow_rel (m := mRea m (nI 0)) h _ _)
    rw [← e2] at h2
    exact h2
  · rw [if_neg (show ¬ nI r = (0 : Int32) from nI_ne0 (by omega) (by omega))]
    have e2 := g_188 (K := K) (v1 := v1) (v2 := eb but) (v3 := v3) (v4 := nI i) (y := M_foot m) (m := mRea m (nI r)) ha.1 hft hft
    have h2 := g_end (K := K) (v1 := v1) (v2 := eb but) (v3 := v3) (i := i) (m0 := m) (a' := a_seat a (a_ft a) p) (r := r) (m := mNow (mRea m (nI r)) (a_ft a) (M_now (mRea m (nI r)) (a_ft a))) (by omega) (pM.rf m) rfl (fun q => absurd q er)
    rw [← e2] at h2
    exact h2
theorem g_inb {K : gK} {v1 v3 x : Int32} {i : Nat} {m : sM} {a : aW} (h : relM m a) (ha : okA a) (hi : i < 60) : gRes K v1 (eb i) v3 i m a 0 (M_turned m) (f_X11_goText_J117 K v1 (eb i) (nI i) x v3 m) := by
  rw [f_X11_goText_J117, if_pos ((eb_iff hi).mpr rfl)]
  exact g_159b h ha hi
theorem g_in {K : gK} {v1 v3 : Int32} {i but p : Nat} {m : sM} {a : aW} (h : relM m a) (ha : okA a) (hi : i < 60) (hp : p < 8) (e : i ≠ but) :
    gRes K v1 (eb but) v3 i m (a_seat a (a_ft a) p) (if cr (a_rd a) p = 8 then (if a_rd a (a_ft a) = 8 then 0 else 2) else 1) (M_turned m) (f_X11_goText_J117 K v1 (eb but) (nI i) (nI p) v3 m) := by
  have hft : M_foot m = nI (a_ft a) := h.2.2.2.1
  have hc8 := cr_le (a_rd a) p
  rw [f_X11_goText_J117, if_neg (fun q => e ((eb_iff hi).mp q)), x_carOf h ha hp, Option.bind_some]
  show gRes _ _ _ _ _ _ _ _ _ (if enc (cr (a_rd a) p) < 0 then _ else _)
  by_cases e1 : cr (a_rd a) p = 8
  · rw [if_pos ((enc_neg hc8).mpr e1), if_pos e1]
    show gRes _ _ _ _ _ _ _ _ _ (if M_foot m < 0 ∨ 8 ≤ (M_foot m).toNatClampNeg then _ else if M_now m (M_foot m).toNatClampNeg < 0 then _ else _)
    have hr8 := ha.2.2.2.2.1 _ ha.1
    have g1 : ¬ (M_foot m < 0 ∨ 8 ≤ (M_foot m).toNatClampNeg) := by rw [hft]; exact nI_ok ha.1 (by decide)
    have g2 : M_now m (M_foot m).toNatClampNeg = enc (a_rd a (a_ft a)) := by rw [hft, nI_cl (show a_ft a < 2147483648 by have := ha.1; omega)]; exact h.2.1 _ ha.1
    rw [if_neg g1, g2]
    by_cases e2 : a_rd a (a_ft a) = 8
    · rw [if_pos ((enc_neg hr8).mpr e2), if_pos e2]
      exact g_159 h ha hi hp e (r := 0) (by omega)
    · rw [if_neg (fun q => e2 ((enc_neg hr8).mp q)), if_neg e2]
      exact g_159 h ha hi hp e (r := 2) (by omega)
  · rw [if_neg (fun q => e1 ((enc_neg hc8).mp q)), if_neg e1]
    exact g_159 h ha hi hp e (r := 1) (by omega)
