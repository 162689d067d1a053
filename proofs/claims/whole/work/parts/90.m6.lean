/-! the whole text, told by the class -/
def tl (sg pf : Nat → Nat) (but : Nat) : Nat → Nat → aW → Int → Bool × Nat × Nat × aW × Int
  | 0, _, a, t => (true, 0, 0, a, t)
  | k + 1, i, a, t => if i = but then tl sg pf but k (i + 1) a t
    else if evR a (sg i) (whom (sg i) (pf (askN sg i))) = 0 then tl sg pf but k (i + 1) (evA a (sg i) (whom (sg i) (pf (askN sg i)))) (t + evT a (sg i))
    else (false, i, evR a (sg i) (whom (sg i) (pf (askN sg i))), a, t)
def eb (but : Nat) : Int32 := if but < 60 then nI but else -6
theorem eb_iff {i but : Nat} (hi : i < 60) : nI i = eb but ↔ i = but := by
  unfold eb
  by_cases h : but < 60
  · rw [if_pos h]; exact nI_eq (by omega) (by omega)
  · rw [if_neg h]
    constructor
    · intro q
      have : (nI i).toInt = -6 := by rw [q]; decide
      rw [nI_tI (by omega)] at this
      omega
    · intro q; omega
theorem askN_mono (sg : Nat → Nat) : ∀ {n m : Nat}, n ≤ m → askN sg n ≤ askN sg m := by
  intro n m h
  induction m with
  | zero => rw [show n = 0 by omega]; exact Nat.le_refl _
  | succ m ih =>
    by_cases e : n = m + 1
    · rw [e]; exact Nat.le_refl _
    · have := ih (by omega)
      rw [askN]; omega
theorem askN_lt (sg : Nat → Nat) {i len : Nat} (h : i < len) (hs : sg i = 63) : askN sg i < askN sg len := by
  have h1 := askN_mono sg (show i + 1 ≤ len from h)
  rw [askN, if_pos hs] at h1
  omega
/-- the persons for the asked places, as one number -/
def pfc (code asked j : Nat) : Nat := code / 8 ^ (asked - 1 - j) % 8
theorem pfc_lt (code asked j : Nat) : pfc code asked j < 8 := Nat.mod_lt _ (by decide)
def paT (q : Nat) : Bool := (List.range 4).all fun asked => (List.range asked).all fun j => decide (f_X1_personAt (nI q) (nI j) (nI asked) = some (nI (pfc q asked j), ()))
theorem pa_tab : (List.range 512).all paT = true := by decide +kernel
theorem pa_at {code asked j : Nat} (h1 : code < 512) (h2 : asked ≤ 3) (h3 : j < asked) : f_X1_personAt (nI code) (nI j) (nI asked) = some (nI (pfc code asked j), ()) := by
  have q := List.all_eq_true.mp pa_tab code (List.mem_range.mpr h1)
  have q := List.all_eq_true.mp q asked (List.mem_range.mpr (by omega))
  have q := List.all_eq_true.mp q j (List.mem_range.mpr h3)
  exact of_decide_eq_true q
/-- the hypotheses on a text that is told -/
def okX (sg : Nat → Nat) (len but : Nat) : Prop := clean sg len ∧ (but < len → sg but ≠ 63 ∧ kd (sg but) ≠ 5 ∧ kd (sg but) ≠ 6 ∧ kd (sg but) ≠ 7)
theorem t_tell_L {u : sP} {m : sM} {len : Nat} {sg : Nat → Nat} (hp : relP u m len sg) {but : Nat} (hx : okX sg len but) (w : sW) {code : Nat} (hc : code < 512) : ∀ (n i : Nat) (t : sT) (a : aW) (tt : Int), i ≤ len → len - i < n → relW (T_wheel t) a → okA a → T_turned t = iI tt → T_askedBefore t = nI (askN sg i) → T_filling t = nI code → T_asked t = nI (askN sg len) →
    ∃ t', f_X7_tell_L47 w u n (eb but) (nI i) t = some (b2 (tl sg (pfc code (askN sg len)) but (len - i) i a tt).1, t') ∧
      ((tl sg (pfc code (askN sg len)) but (len - i) i a tt).1 = true → relW (T_wheel t') (tl sg (pfc code (askN sg len)) but (len - i) i a tt).2.2.2.1 ∧ okA (tl sg (pfc code (askN sg len)) but (len - i) i a tt).2.2.2.1 ∧ T_turned t' = iI (tl sg (pfc code (askN sg len)) but (len - i) i a tt).2.2.2.2 ∧ T_failedEvent t' = T_failedEvent t ∧ T_reason t' = T_reason t) ∧
      ((tl sg (pfc code (askN sg len)) but (len - i) i a tt).1 = false → T_failedEvent t' = nI (tl sg (pfc code (askN sg len)) but (len - i) i a tt).2.1 ∧ T_reason t' = nI (tl sg (pfc code (askN sg len)) but (len - i) i a tt).2.2.1) := by
  have h60 := hp.1
  intro n
  induction n with
  | zero => intro i t a tt _ q; omega
  | succ n ih =>
    intro i t a tt hi hn h ha ht hab hfi has
    rw [f_X7_tell_L47, f_X4_length, Option.bind_some, hp.2.1]
    by_cases e : i = len
    · rw [if_pos (show nI len ≤ nI i from nI_le (by omega) (by omega)), e, Nat.sub_self]
      exact ⟨t, rfl, fun _ => ⟨h, ha, ht, rfl, rfl⟩, fun q => by cases q⟩
    · have hlt : i < len := by omega
      obtain ⟨s1, s2, -, -⟩ := hp.2.2.2.2 i hlt
      rw [if_neg (show ¬ nI len ≤ nI i from nI_ge hlt (by omega)), show len - i = (len - (i + 1)) + 1 by omega, tl]
      by_cases eb1 : i = but
      · rw [if_pos eb1, if_pos ((eb_iff (by omega)).mpr eb1), f_X7_tell_J76, if_pos rfl, show nI i + (1 : Int32) = nI (i + 1) from nI_1 i]
        have hno := (hx.2 (by omega)).1
        rw [← eb1] at hno
        exact ih (i + 1) t a tt hlt (by omega) h ha ht (by rw [askN, if_neg hno]; exact hab) hfi has
      · rw [if_neg eb1, if_neg (fun q => eb1 ((eb_iff (by omega)).mp q)), p_sign hp hlt, Option.bind_some]
        have h8 : kd (sg i) = 8 → f_X1_personAt (T_filling t) (T_askedBefore t) (T_asked t) = some (nI (pfc code (askN sg len) (askN sg i)), ()) := by
          intro q
          rw [hfi, hab, has]
          exact pa_at hc hx.1.2 (askN_lt sg hlt (kd8.mp q))
        obtain ⟨t1, g1, g2, g3, ⟨g4, g5, g6, g7⟩, g8⟩ := t_happen h ha (s := sg i) (p := pfc code (askN sg len) (askN sg i)) (by omega) (hx.1.1 i hlt) (pfc_lt _ _ _) h8
        show ∃ t', (f_X7_happen t (nI (sg i))).bind _ = _ ∧ _
        rw [g1, Option.bind_some]
        by_cases er : evR a (sg i) (whom (sg i) (pfc code (askN sg len) (askN sg i))) = 0
        · rw [if_pos er, er]
          show ∃ t', f_X7_tell_J76 w u (f_X7_tell_L47 w u n) (eb but) (nI i) (nI 0) t1 = _ ∧ _
          rw [f_X7_tell_J76, if_pos (show nI 0 = (0 : Int32) from rfl), show nI i + (1 : Int32) = nI (i + 1) from nI_1 i]
          have hab' : T_askedBefore t1 = nI (askN sg (i + 1)) := by
            rw [g8, hab, nI_add, askN]
            congr 2
            by_cases q : sg i = 63
            · rw [if_pos q, if_pos (kd8.mpr q)]
            · rw [if_neg q, if_neg (fun z => q (kd8.mp z))]
          have := ih (i + 1) t1 _ (tt + evT a (sg i)) hlt (by omega) (g2 er) (evA_ok ha (whom_lt (pfc_lt _ _ _)) er) (by rw [g3, ht, iI_add]) hab' (by rw [g4, hfi]) (by rw [g5, has])
          rw [g6, g7] at this
          exact this
        · rw [if_neg er]
          show ∃ t', f_X7_tell_J76 w u (f_X7_tell_L47 w u n) (eb but) (nI i) (nI (evR a (sg i) (whom (sg i) (pfc code (askN sg len) (askN sg i))))) t1 = _ ∧ _
          have hle : evR a (sg i) (whom (sg i) (pfc code (askN sg len) (askN sg i))) ≤ 4 := by unfold evR; repeat (first | omega | split)
          rw [f_X7_tell_J76, if_neg (show ¬ nI (evR a (sg i) (whom (sg i) (pfc code (askN sg len) (askN sg i)))) = (0 : Int32) from nI_ne0 (by omega) (by omega))]
          exact ⟨_, rfl, (fun q => by cases q), fun _ => ⟨rfl, rfl⟩⟩
def tell (sg : Nat → Nat) (len code but : Nat) (a : aW) : Bool × Nat × Nat × aW × Int := tl sg (pfc code (askN sg len)) but len 0 a 0
theorem t_tell {u : sP} {m : sM} {len : Nat} {sg : Nat → Nat} (hp : relP u m len sg) {but : Nat} (hx : okX sg len but) {w : sW} {a : aW} (hw : relW w a) (ha : okA a) (t : sT) {code : Nat} (hc : code < 512) :
    ∃ t', f_X7_tell t w u (eb but) (nI code) = some (b2 (tell sg len code but a).1, t') ∧
      ((tell sg len code but a).1 = true → relW (T_wheel t') (tell sg len code but a).2.2.2.1 ∧ okA (tell sg len code but a).2.2.2.1 ∧ T_turned t' = iI (tell sg len code but a).2.2.2.2 ∧ T_failedEvent t' = -6 ∧ T_reason t' = -6) ∧
      ((tell sg len code but a).1 = false → T_failedEvent t' = nI (tell sg len code but a).2.1 ∧ T_reason t' = nI (tell sg len code but a).2.2.1) := by
  obtain ⟨w1, h1, h2⟩ := w_copyFrom hw (T_wheel t)
  have ho := oF_ge
  have h60 := hp.1
  rw [f_X7_tell, h1, Option.bind_some, f_X4_asked, Option.bind_some]
  show ∃ t', f_X7_tell_L47 w u oF (eb but) 0 (w1, -6, -6, 0, nI code, P_asked u, 0) = _ ∧ _
  generalize oF = N at ho ⊢
  have := t_tell_L hp hx w hc N 0 (w1, -6, -6, 0, nI code, P_asked u, 0) a 0 (Nat.zero_le _) (by omega) h2 ha rfl rfl rfl hp.2.2.2.1
  exact this
