def f_X10_at (n_r0 : Nat) (u_r0 : Fn) (p1 : Int32) : Option (Int32 × Unit) := (if p1 < 0 then some ((-6 : Int32), ()) else (if (Int32.ofNat n_r0) ≤ p1 then some ((-6 : Int32), ()) else (if p1 < 0 ∨ n_r0 ≤ p1.toNatClampNeg then none else some ((u_r0 p1.toNatClampNeg), ()))))
abbrev rmX10_at : Room := { frames := 0, cells := 0, slots := 0, locals := 0 }
def f_X10_put (n_r0 : Nat) (u_r0 : Fn) (p1 : Int32) (p2 : Int32) : Option (Fn) := (if p1 < 0 then some u_r0 else (if (Int32.ofNat n_r0) ≤ p1 then some u_r0 else (if p1 < 0 ∨ n_r0 ≤ p1.toNatClampNeg then none else some (upd u_r0 p1.toNatClampNeg p2))))
abbrev rmX10_put : Room := { frames := 0, cells := 0, slots := 0, locals := 0 }
def f_X10_isPerson (p0 : Int32) : Option (Int32 × Unit) := (if p0 < 0 then some ((0 : Int32), ()) else (if (8 : Int32) ≤ p0 then some ((0 : Int32), ()) else some ((1 : Int32), ())))
abbrev rmX10_isPerson : Room := { frames := 0, cells := 0, slots := 0, locals := 0 }
def f_X10_isCar (p0 : Int32) : Option (Int32 × Unit) := (if p0 < 0 then some ((0 : Int32), ()) else (if (8 : Int32) ≤ p0 then some ((0 : Int32), ()) else some ((1 : Int32), ())))
abbrev rmX10_isCar : Room := { frames := 0, cells := 0, slots := 0, locals := 0 }
def f_X10_isOf (p0 : Int32) (p1 : Int32) : Option (Int32 × Unit) := (if ((p0 >>> (p1 &&& 31)) &&& (1 : Int32)) = (1 : Int32) then some ((1 : Int32), ()) else some ((0 : Int32), ()))
abbrev rmX10_isOf : Room := { frames := 0, cells := 0, slots := 0, locals := 0 }
def f_X10_copyRow (n_r0 : Nat) (n_r1 : Nat) (u_r0 : Fn) (u_r1 : Fn) : Option (Fn) := (if (if (Int32.ofNat n_r1) < (Int32.ofNat n_r0) then (Int32.ofNat n_r1) else (Int32.ofNat n_r0)) < 0 ∨ n_r0 < (if (Int32.ofNat n_r1) < (Int32.ofNat n_r0) then (Int32.ofNat n_r1) else (Int32.ofNat n_r0)).toNatClampNeg ∨ n_r1 < (if (Int32.ofNat n_r1) < (Int32.ofNat n_r0) then (Int32.ofNat n_r1) else (Int32.ofNat n_r0)).toNatClampNeg then none else some (va_cpy u_r0 u_r1 0 0 (if (Int32.ofNat n_r1) < (Int32.ofNat n_r0) then (Int32.ofNat n_r1) else (Int32.ofNat n_r0)).toNatClampNeg))
abbrev rmX10_copyRow : Room := { frames := 1, cells := 0, slots := 0, locals := 64 }
def f_X10_greatestDivisor_L9 : Nat → Int64 → Int64 → Int32 → Option (Int64 × Unit)
  | 0, _, _, _ => none
  | n + 1, v4, v6, v8 => (if (128 : Int32) ≤ v8 then some (v4, ()) else (if (lg_cmp v6 (0 : Int64)) = 0 then some (v4, ()) else (if v6 = 0 then none else (f_X10_greatestDivisor_L9 n) v6 (v4 - v4 / v6 * v6) (v8 + (1 : Int32)))))
def f_X10_greatestDivisor (p0 : Int64) (p2 : Int64) : Option (Int64 × Unit) := f_X10_greatestDivisor_L9 oF p0 p2 (0 : Int32)
abbrev rmX10_greatestDivisor : Room := { frames := 0, cells := 0, slots := 0, locals := 0 }
def f_J9_floorMod_7cf53 (p0 : Int32) (p1 : Int32) : Option (Int32 × Unit) := (if p1 = 0 then none else (if 0 ≤ (p0 ^^^ p1) then some ((p0 - p0 / p1 * p1), ()) else (if (p0 - p0 / p1 * p1) = 0 then some ((p0 - p0 / p1 * p1), ()) else some (((p0 - p0 / p1 * p1) + p1), ()))))
abbrev rmJ9_floorMod_7cf53 : Room := { frames := 0, cells := 0, slots := 0, locals := 0 }
def f_J7_fill_53178_L5 (n_r0 : Nat) : Nat → Int32 → Int32 → Int32 → Fn → Option (Fn)
  | 0, _, _, _, _ => none
  | n + 1, v1, v2, v3, u_r0 => (if v3 ≤ v2 then some u_r0 else (if v2 < 0 ∨ n_r0 ≤ v2.toNatClampNeg then none else (f_J7_fill_53178_L5 n_r0 n) v1 (v2 + (1 : Int32)) v3 (upd u_r0 v2.toNatClampNeg v1)))
def f_J7_fill_53178 (n_r0 : Nat) (u_r0 : Fn) (p1 : Int32) : Option (Fn) := f_J7_fill_53178_L5 n_r0 oF p1 (0 : Int32) (Int32.ofNat n_r0) u_r0
abbrev rmJ7_fill_53178 : Room := { frames := 0, cells := 0, slots := 0, locals := 0 }
def f_J6_bitCount_0f7a4 (p0 : Int32) : Option (Int32 × Unit) := some (((((((((p0 - ((((p0).toUInt32 >>> (((1 : Int32)).toUInt32 &&& Int32.toUInt32 31)).toInt32) &&& (1431655765 : Int32))) &&& (858993459 : Int32)) + (((((p0 - ((((p0).toUInt32 >>> (((1 : Int32)).toUInt32 &&& Int32.toUInt32 31)).toInt32) &&& (1431655765 : Int32)))).toUInt32 >>> (((2 : Int32)).toUInt32 &&& Int32.toUInt32 31)).toInt32) &&& (858993459 : Int32))) + ((((((p0 - ((((p0).toUInt32 >>> (((1 : Int32)).toUInt32 &&& Int32.toUInt32 31)).toInt32) &&& (1431655765 : Int32))) &&& (858993459 : Int32)) + (((((p0 - ((((p0).toUInt32 >>> (((1 : Int32)).toUInt32 &&& Int32.toUInt32 31)).toInt32) &&& (1431655765 : Int32)))).toUInt32 >>> (((2 : Int32)).toUInt32 &&& Int32.toUInt32 31)).toInt32) &&& (858993459 : Int32)))).toUInt32 >>> (((4 : Int32)).toUInt32 &&& Int32.toUInt32 31)).toInt32)) &&& (252645135 : Int32)) + ((((((((p0 - ((((p0).toUInt32 >>> (((1 : Int32)).toUInt32 &&& Int32.toUInt32 31)).toInt32) &&& (1431655765 : Int32))) &&& (858993459 : Int32)) + (((((p0 - ((((p0).toUInt32 >>> (((1 : Int32)).toUInt32 &&& Int32.toUInt32 31)).toInt32) &&& (1431655765 : Int32)))).toUInt32 >>> (((2 : Int32)).toUInt32 &&& Int32.toUInt32 31)).toInt32) &&& (858993459 : Int32))) + ((((((p0 - ((((p0).toUInt32 >>> (((1 : Int32)).toUInt32 &&& Int32.toUInt32 31)).toInt32) &&& (1431655765 : Int32))) &&& (858993459 : Int32)) + (((((p0 - ((((p0).toUInt32 >>> (((1 : Int32)).toUInt32 &&& Int32.toUInt32 31)).toInt32) &&& (1431655765 : Int32)))).toUInt32 >>> (((2 : Int32)).toUInt32 &&& Int32.toUInt32 31)).toInt32) &&& (858993459 : Int32)))).toUInt32 >>> (((4 : Int32)).toUInt32 &&& Int32.toUInt32 31)).toInt32)) &&& (252645135 : Int32))).toUInt32 >>> (((8 : Int32)).toUInt32 &&& Int32.toUInt32 31)).toInt32)) + (((((((((p0 - ((((p0).toUInt32 >>> (((1 : Int32)).toUInt32 &&& Int32.toUInt32 31)).toInt32) &&& (1431655765 : Int32))) &&& (858993459 : Int32)) + (((((p0 - ((((p0).toUInt32 >>> (((1 : Int32)).toUInt32 &&& Int32.toUInt32 31)).toInt32) &&& (1431655765 : Int32)))).toUInt32 >>> (((2 : Int32)).toUInt32 &&& Int32.toUInt32 31)).toInt32) &&& (858993459 : Int32))) + ((((((p0 - ((((p0).toUInt32 >>> (((1 : Int32)).toUInt32 &&& Int32.toUInt32 31)).toInt32) &&& (1431655765 : Int32))) &&& (858993459 : Int32)) + (((((p0 - ((((p0).toUInt32 >>> (((1 : Int32)).toUInt32 &&& Int32.toUInt32 31)).toInt32) &&& (1431655765 : Int32)))).toUInt32 >>> (((2 : Int32)).toUInt32 &&& Int32.toUInt32 31)).toInt32) &&& (858993459 : Int32)))).toUInt32 >>> (((4 : Int32)).toUInt32 &&& Int32.toUInt32 31)).toInt32)) &&& (252645135 : Int32)) + ((((((((p0 - ((((p0).toUInt32 >>> (((1 : Int32)).toUInt32 &&& Int32.toUInt32 31)).toInt32) &&& (1431655765 : Int32))) &&& (858993459 : Int32)) + (((((p0 - ((((p0).toUInt32 >>> (((1 : Int32)).toUInt32 &&& Int32.toUInt32 31)).toInt32) &&& (1431655765 : Int32)))).toUInt32 >>> (((2 : Int32)).toUInt32 &&& Int32.toUInt32 31)).toInt32) &&& (858993459 : Int32))) + ((((((p0 - ((((p0).toUInt32 >>> (((1 : Int32)).toUInt32 &&& Int32.toUInt32 31)).toInt32) &&& (1431655765 : Int32))) &&& (858993459 : Int32)) + (((((p0 - ((((p0).toUInt32 >>> (((1 : Int32)).toUInt32 &&& Int32.toUInt32 31)).toInt32) &&& (1431655765 : Int32)))).toUInt32 >>> (((2 : Int32)).toUInt32 &&& Int32.toUInt32 31)).toInt32) &&& (858993459 : Int32)))).toUInt32 >>> (((4 : Int32)).toUInt32 &&& Int32.toUInt32 31)).toInt32)) &&& (252645135 : Int32))).toUInt32 >>> (((8 : Int32)).toUInt32 &&& Int32.toUInt32 31)).toInt32))).toUInt32 >>> (((16 : Int32)).toUInt32 &&& Int32.toUInt32 31)).toInt32)) &&& (63 : Int32)), ())
abbrev rmJ6_bitCount_0f7a4 : Room := { frames := 0, cells := 0, slots := 0, locals := 0 }
def f_X10_atT (p1 : Int32) : Option (Int32 × Unit) := (if p1 < 0 then some ((-6 : Int32), ()) else (if (8 : Int32) ≤ p1 then some ((-6 : Int32), ()) else (if p1 < 0 ∨ 8 ≤ p1.toNatClampNeg then none else some ((arms p1.toNatClampNeg), ()))))
abbrev rmX10_atT : Room := { frames := 0, cells := 0, slots := 0, locals := 0 }
def f_X9_copyFrom (u_th : sW) (u_o1 : sW) : Option (sW) := (f_X10_copyRow 8 8 (W_weights u_o1) (W_weights u_th)).bind fun z1 => (f_X10_copyRow 8 8 (W_cars u_o1) (W_cars u_th)).bind fun z2 => (f_X10_copyRow 8 8 (W_riders u_o1) (W_riders u_th)).bind fun z3 => (f_X10_copyRow 8 8 (W_loads u_o1) (W_loads u_th)).bind fun z4 => some (z1, z2, z3, z4, (W_lowest u_o1), (W_friction u_o1))
abbrev rmX9_copyFrom : Room := { frames := 2, cells := 0, slots := 0, locals := 89 }
def f_X9_clear (u_th : sW) : Option (sW) := (f_J7_fill_53178 8 (W_cars u_th) (-6 : Int32)).bind fun z1 => (f_J7_fill_53178 8 (W_riders u_th) (-6 : Int32)).bind fun z2 => (f_J7_fill_53178 8 (W_loads u_th) (0 : Int32)).bind fun z3 => some ((W_weights u_th), z1, z2, z3, (W_lowest u_th), (W_friction u_th))
abbrev rmX9_clear : Room := { frames := 1, cells := 0, slots := 0, locals := 27 }
def f_X9_weightOf (u_th : sW) (p1 : Int32) : Option (Int32 × Unit) := (f_X10_at 8 (W_weights u_th) p1).bind fun z1 => some (z1.1, ())
abbrev rmX9_weightOf : Room := { frames := 1, cells := 0, slots := 0, locals := 25 }
def f_X9_setWeight (u_th : sW) (p1 : Int32) (p2 : Int32) : Option (sW) := (f_X10_put 8 (W_weights u_th) p1 p2).bind fun z1 => some (z1, (W_cars u_th), (W_riders u_th), (W_loads u_th), (W_lowest u_th), (W_friction u_th))
abbrev rmX9_setWeight : Room := { frames := 1, cells := 0, slots := 0, locals := 26 }
def f_X9_friction (u_th : sW) : Option (Int32 × Unit) := some ((W_friction u_th), ())
abbrev rmX9_friction : Room := { frames := 0, cells := 0, slots := 0, locals := 0 }
def f_X9_setFriction (u_th : sW) (p1 : Int32) : Option (sW) := some ((W_weights u_th), (W_cars u_th), (W_riders u_th), (W_loads u_th), (W_lowest u_th), p1)
abbrev rmX9_setFriction : Room := { frames := 0, cells := 0, slots := 0, locals := 0 }
def f_X9_lowest (u_th : sW) : Option (Int32 × Unit) := some ((W_lowest u_th), ())
abbrev rmX9_lowest : Room := { frames := 0, cells := 0, slots := 0, locals := 0 }
def f_X9_riderOf (u_th : sW) (p1 : Int32) : Option (Int32 × Unit) := (f_X10_at 8 (W_riders u_th) p1).bind fun z1 => some (z1.1, ())
abbrev rmX9_riderOf : Room := { frames := 1, cells := 0, slots := 0, locals := 25 }
def f_X9_carOf (u_th : sW) (p1 : Int32) : Option (Int32 × Unit) := (f_X10_at 8 (W_cars u_th) p1).bind fun z1 => some (z1.1, ())
abbrev rmX9_carOf : Room := { frames := 1, cells := 0, slots := 0, locals := 25 }
def f_X9_isAboard (u_th : sW) (p1 : Int32) : Option (Int32 × Unit) := (f_X10_at 8 (W_cars u_th) p1).bind fun z1 => (if z1.1 = (-6 : Int32) then some ((0 : Int32), ()) else some ((1 : Int32), ()))
abbrev rmX9_isAboard : Room := { frames := 1, cells := 0, slots := 0, locals := 25 }
def f_X9_isLowest (u_th : sW) (p1 : Int32) : Option (Int32 × Unit) := (f_X10_at 8 (W_cars u_th) p1).bind fun z1 => (if z1.1 = (W_lowest u_th) then some ((1 : Int32), ()) else some ((0 : Int32), ()))
abbrev rmX9_isLowest : Room := { frames := 1, cells := 0, slots := 0, locals := 25 }
def f_X9_isTaken (u_th : sW) : Option (Int32 × Unit) := (f_X10_at 8 (W_riders u_th) (W_lowest u_th)).bind fun z1 => (if z1.1 = (-6 : Int32) then some ((0 : Int32), ()) else some ((1 : Int32), ()))
abbrev rmX9_isTaken : Room := { frames := 1, cells := 0, slots := 0, locals := 25 }
def f_X9_loadOf (u_th : sW) (p1 : Int32) : Option (Int32 × Unit) := (f_X10_at 8 (W_loads u_th) p1).bind fun z1 => some (z1.1, ())
abbrev rmX9_loadOf : Room := { frames := 1, cells := 0, slots := 0, locals := 25 }
def f_X9_setLoad (u_th : sW) (p1 : Int32) (p2 : Int32) : Option (sW) := (f_X10_put 8 (W_loads u_th) p1 p2).bind fun z1 => some ((W_weights u_th), (W_cars u_th), (W_riders u_th), z1, (W_lowest u_th), (W_friction u_th))
abbrev rmX9_setLoad : Room := { frames := 1, cells := 0, slots := 0, locals := 26 }
def f_X9_placeOf (u_th : sW) (p1 : Int32) : Option (Int32 × Unit) := (f_J9_floorMod_7cf53 (p1 - (W_lowest u_th)) (8 : Int32)).bind fun z1 => some (z1.1, ())
abbrev rmX9_placeOf : Room := { frames := 1, cells := 0, slots := 0, locals := 26 }
def f_X9_takenCars_L4 (u_th : sW) : Nat → Int32 → Int32 → Option (Int32 × Unit)
  | 0, _, _ => none
  | n + 1, v1, v2 => (if (8 : Int32) ≤ v2 then some (v1, ()) else (f_X10_at 8 (W_riders u_th) v2).bind fun z2 => (if z2.1 = (-6 : Int32) then (f_X9_takenCars_L4 u_th n) v1 (v2 + (1 : Int32)) else (f_X9_takenCars_L4 u_th n) (v1 ||| ((1 : Int32) <<< (v2 &&& 31))) (v2 + (1 : Int32))))
def f_X9_takenCars (u_th : sW) : Option (Int32 × Unit) := f_X9_takenCars_L4 u_th oF (0 : Int32) (0 : Int32)
abbrev rmX9_takenCars : Room := { frames := 1, cells := 0, slots := 0, locals := 25 }
def f_X9_seat (u_th : sW) (p1 : Int32) (p2 : Int32) : Option (sW) := (f_X10_put 8 (W_riders u_th) p2 p1).bind fun z1 => (f_X10_put 8 (W_cars u_th) p1 p2).bind fun z2 => some ((W_weights u_th), z2, z1, (W_loads u_th), (W_lowest u_th), (W_friction u_th))
abbrev rmX9_seat : Room := { frames := 1, cells := 0, slots := 0, locals := 26 }
def f_X9_unseat (u_th : sW) (p1 : Int32) : Option (sW) := (f_X10_at 8 (W_riders u_th) p1).bind fun z1 => (f_X10_put 8 (W_cars u_th) z1.1 (-6 : Int32)).bind fun z2 => (f_X10_put 8 (W_riders u_th) p1 (-6 : Int32)).bind fun z3 => some ((W_weights u_th), z2, z3, (W_loads u_th), (W_lowest u_th), (W_friction u_th))
abbrev rmX9_unseat : Room := { frames := 1, cells := 0, slots := 0, locals := 26 }
def f_X9_turn (u_th : sW) (p1 : Int32) : Option (sW) := (f_J9_floorMod_7cf53 ((W_lowest u_th) + p1) (8 : Int32)).bind fun z1 => some ((W_weights u_th), (W_cars u_th), (W_riders u_th), (W_loads u_th), z1.1, (W_friction u_th))
abbrev rmX9_turn : Room := { frames := 1, cells := 0, slots := 0, locals := 26 }
def f_X9_takeBack (u_th : sW) (p1 : Int32) (p2 : Int32) : Option (sW) := (f_J9_floorMod_7cf53 p1 (8 : Int32)).bind fun z1 => (f_X9_unseat ((W_weights u_th), (W_cars u_th), (W_riders u_th), (W_loads u_th), z1.1, (W_friction u_th)) p1).bind fun z2 => (if p2 = (-6 : Int32) then some z2 else (f_X9_seat z2 p2 p1).bind fun z4 => some z4)
abbrev rmX9_takeBack : Room := { frames := 2, cells := 0, slots := 0, locals := 52 }
def f_X9_pullAt_J48 (u_th : sW) (K_4 : Int32 → Int32 → Int32 → Option (Int32 × Unit)) (v1 : Int32) (v2 : Int32) (v3 : Int32) (s0 : Int32) (s1 : Int32) : Option (Int32 × Unit) := (f_J9_floorMod_7cf53 (v3 - v1) (8 : Int32)).bind fun z6 => (f_X10_atT z6.1).bind fun z7 => K_4 v1 (v2 + ((s0 + s1) * z7.1)) (v3 + (1 : Int32))
def f_X9_pullAt_L4 (u_th : sW) : Nat → Int32 → Int32 → Int32 → Option (Int32 × Unit)
  | 0, _, _, _ => none
  | n + 1, v1, v2, v3 => (if (8 : Int32) ≤ v3 then some (v2, ()) else (f_X10_at 8 (W_riders u_th) v3).bind fun z2 => (f_X10_at 8 (W_loads u_th) v3).bind fun z3 => (if z2.1 = (-6 : Int32) then f_X9_pullAt_J48 u_th (f_X9_pullAt_L4 u_th n) v1 v2 v3 z3.1 (0 : Int32) else (f_X10_at 8 (W_weights u_th) z2.1).bind fun z5 => f_X9_pullAt_J48 u_th (f_X9_pullAt_L4 u_th n) v1 v2 v3 z3.1 z5.1))
def f_X9_pullAt (u_th : sW) (p1 : Int32) : Option (Int32 × Unit) := f_X9_pullAt_L4 u_th oF p1 (0 : Int32) (0 : Int32)
abbrev rmX9_pullAt : Room := { frames := 1, cells := 0, slots := 0, locals := 26 }
def f_X9_pullNow (u_th : sW) : Option (Int32 × Unit) := (f_X9_pullAt u_th (W_lowest u_th)).bind fun z1 => some (z1.1, ())
abbrev rmX9_pullNow : Room := { frames := 2, cells := 0, slots := 0, locals := 55 }
def f_X9_greatestPull_L4 (u_th : sW) : Nat → Int32 → Int32 → Option (Int32 × Unit)
  | 0, _, _ => none
  | n + 1, v1, v2 => (if (8 : Int32) ≤ v2 then some (v1, ()) else (f_X9_pullAt u_th v2).bind fun z2 => (f_X9_greatestPull_L4 u_th n) (if v1 < (if 0 ≤ z2.1 then z2.1 else 0 - z2.1) then (if 0 ≤ z2.1 then z2.1 else 0 - z2.1) else v1) (v2 + (1 : Int32)))
def f_X9_greatestPull (u_th : sW) : Option (Int32 × Unit) := f_X9_greatestPull_L4 u_th oF (0 : Int32) (0 : Int32)
abbrev rmX9_greatestPull : Room := { frames := 2, cells := 0, slots := 0, locals := 55 }
def f_X9_wayOf (u_th : sW) (p1 : Int32) : Option (Int32 × Unit) := (if p1 ≤ (W_friction u_th) then (if (-(W_friction u_th)) ≤ p1 then some ((0 : Int32), ()) else some ((-1 : Int32), ())) else some ((1 : Int32), ()))
abbrev rmX9_wayOf : Room := { frames := 0, cells := 0, slots := 0, locals := 0 }
def f_X9_letGo_L20 : Nat → Int32 → Int32 → Int32 → Int32 → sW → Option (Int32 × sW)
  | 0, _, _, _, _, _ => none
  | n + 1, v1, v2, v3, v4, u_th => (if (8 : Int32) ≤ v4 then some (v3, u_th) else (if v2 = 0 then some (v3, u_th) else (if v2 = v1 then (f_X9_turn u_th v1).bind fun z6 => (f_X9_pullAt z6 (W_lowest z6)).bind fun z7 => (f_X9_wayOf z6 z7.1).bind fun z8 => (f_X9_letGo_L20 n) v1 z8.1 (v3 + v1) (v4 + (1 : Int32)) z6 else some (v3, u_th))))
def f_X9_letGo (u_th : sW) : Option (Int32 × sW) := (f_X9_pullAt u_th (W_lowest u_th)).bind fun z1 => (f_X9_wayOf u_th z1.1).bind fun z2 => f_X9_letGo_L20 oF z2.1 z2.1 (0 : Int32) (0 : Int32) u_th
abbrev rmX9_letGo : Room := { frames := 2, cells := 0, slots := 0, locals := 55 }
def f_X4_length (u_th : sP) : Option (Int32 × Unit) := some ((P_length u_th), ())
abbrev rmX4_length : Room := { frames := 0, cells := 0, slots := 0, locals := 0 }
def f_X4_signAt (u_th : sP) (p1 : Int32) : Option (Int32 × Unit) := (f_X10_at 60 (P_signs u_th) p1).bind fun z1 => some (z1.1, ())
abbrev rmX4_signAt : Room := { frames := 1, cells := 0, slots := 0, locals := 25 }
def f_X4_write (u_th : sP) (p1 : Int32) : Option (sP) := (if (60 : Int32) ≤ (P_length u_th) then some u_th else (f_X10_put 60 (P_signs u_th) (P_length u_th) p1).bind fun z2 => (if p1 = (63 : Int32) then some (z2, ((P_length u_th) + (1 : Int32)), ((P_asked u_th) + (1 : Int32))) else some (z2, ((P_length u_th) + (1 : Int32)), ((P_asked u_th) + (0 : Int32)))))
abbrev rmX4_write : Room := { frames := 1, cells := 0, slots := 0, locals := 26 }
def f_X4_clear (u_th : sP) : Option (sP) := some ((P_signs u_th), (0 : Int32), (0 : Int32))
abbrev rmX4_clear : Room := { frames := 0, cells := 0, slots := 0, locals := 0 }
def f_X4_asked (u_th : sP) : Option (Int32 × Unit) := some ((P_asked u_th), ())
abbrev rmX4_asked : Room := { frames := 0, cells := 0, slots := 0, locals := 0 }
def f_X4_getsIn (p0 : Int32) : Option (Int32 × Unit) := (if p0 < (65 : Int32) then some ((0 : Int32), ()) else (if (73 : Int32) ≤ p0 then some ((0 : Int32), ()) else some ((1 : Int32), ())))
abbrev rmX4_getsIn : Room := { frames := 0, cells := 0, slots := 0, locals := 0 }
def f_X4_getsOut (p0 : Int32) : Option (Int32 × Unit) := (if p0 < (97 : Int32) then some ((0 : Int32), ()) else (if (105 : Int32) ≤ p0 then some ((0 : Int32), ()) else some ((1 : Int32), ())))
abbrev rmX4_getsOut : Room := { frames := 0, cells := 0, slots := 0, locals := 0 }
def f_X4_isDigit (p0 : Int32) : Option (Int32 × Unit) := (if p0 < (48 : Int32) then some ((0 : Int32), ()) else (if (57 : Int32) < p0 then some ((0 : Int32), ()) else some ((1 : Int32), ())))
abbrev rmX4_isDigit : Room := { frames := 0, cells := 0, slots := 0, locals := 0 }
def f_X4_isMotion (p0 : Int32) : Option (Int32 × Unit) := (if p0 = (94 : Int32) then some ((1 : Int32), ()) else (if p0 = (62 : Int32) then some ((1 : Int32), ()) else (if p0 = (60 : Int32) then some ((1 : Int32), ()) else some ((0 : Int32), ()))))
abbrev rmX4_isMotion : Room := { frames := 0, cells := 0, slots := 0, locals := 0 }
def f_X4_firstFault_J70 (u_th : sP) (K_4 : Int32 → Int32 → Option (Int32 × Unit)) (v1 : Int32) (v2 : Int32) (v3 : Int32) (s0 : Int32) : Option (Int32 × Unit) := (if s0 = 0 then some (v2, ()) else (if v3 = (63 : Int32) then K_4 (v1 + (1 : Int32)) (v2 + (1 : Int32)) else K_4 (v1 + (0 : Int32)) (v2 + (1 : Int32))))
def f_X4_firstFault_L4 (u_th : sP) : Nat → Int32 → Int32 → Option (Int32 × Unit)
  | 0, _, _ => none
  | n + 1, v1, v2 => (if (P_length u_th) ≤ v2 then some ((-6 : Int32), ()) else (f_X4_signAt u_th v2).bind fun z2 => (if z2.1 = (63 : Int32) then (if (3 : Int32) ≤ v1 then f_X4_firstFault_J70 u_th (f_X4_firstFault_L4 u_th n) v1 v2 z2.1 (0 : Int32) else f_X4_firstFault_J70 u_th (f_X4_firstFault_L4 u_th n) v1 v2 z2.1 (1 : Int32)) else (f_X4_getsIn z2.1).bind fun z4 => (if z4.1 = 0 then (f_X4_getsOut z2.1).bind fun z8 => (if z8.1 = 0 then (f_X4_isDigit z2.1).bind fun z10 => (if z10.1 = 0 then (f_X4_isMotion z2.1).bind fun z12 => (if z12.1 = 0 then f_X4_firstFault_J70 u_th (f_X4_firstFault_L4 u_th n) v1 v2 z2.1 (0 : Int32) else f_X4_firstFault_J70 u_th (f_X4_firstFault_L4 u_th n) v1 v2 z2.1 (1 : Int32)) else f_X4_firstFault_J70 u_th (f_X4_firstFault_L4 u_th n) v1 v2 z2.1 (1 : Int32)) else f_X4_firstFault_J70 u_th (f_X4_firstFault_L4 u_th n) v1 v2 z2.1 (1 : Int32)) else f_X4_firstFault_J70 u_th (f_X4_firstFault_L4 u_th n) v1 v2 z2.1 (1 : Int32))))
def f_X4_firstFault (u_th : sP) : Option (Int32 × Unit) := f_X4_firstFault_L4 u_th oF (0 : Int32) (0 : Int32)
abbrev rmX4_firstFault : Room := { frames := 2, cells := 0, slots := 0, locals := 50 }
def f_X6_copyFrom (u_th : sS) (u_o1 : sS) : Option (sS) := (f_X10_copyRow 6 6 (S_people u_o1) (S_people u_th)).bind fun z1 => (f_X10_copyRow 6 6 (S_cars u_o1) (S_cars u_th)).bind fun z2 => some (z1, z2, (S_count u_o1))
abbrev rmX6_copyFrom : Room := { frames := 2, cells := 0, slots := 0, locals := 89 }
def f_X6_count (u_th : sS) : Option (Int32 × Unit) := some ((S_count u_th), ())
abbrev rmX6_count : Room := { frames := 0, cells := 0, slots := 0, locals := 0 }
def f_X6_add (u_th : sS) (p1 : Int32) (p2 : Int32) : Option (sS) := (if (6 : Int32) ≤ (S_count u_th) then some u_th else (f_X10_put 6 (S_people u_th) (S_count u_th) p1).bind fun z2 => (f_X10_put 6 (S_cars u_th) (S_count u_th) p2).bind fun z3 => some (z2, z3, ((S_count u_th) + (1 : Int32))))
abbrev rmX6_add : Room := { frames := 1, cells := 0, slots := 0, locals := 26 }
def f_X6_clear (u_th : sS) : Option (sS) := some ((S_people u_th), (S_cars u_th), (0 : Int32))
abbrev rmX6_clear : Room := { frames := 0, cells := 0, slots := 0, locals := 0 }
def f_X6_areTrue_L2 (u_th : sS) (u_o1 : sW) : Nat → Int32 → Option (Int32 × Unit)
  | 0, _ => none
  | n + 1, v2 => (if (S_count u_th) ≤ v2 then some ((1 : Int32), ()) else (f_X10_at 6 (S_people u_th) v2).bind fun z2 => (f_X9_carOf u_o1 z2.1).bind fun z3 => (f_X10_at 6 (S_cars u_th) v2).bind fun z4 => (if z3.1 = z4.1 then (f_X6_areTrue_L2 u_th u_o1 n) (v2 + (1 : Int32)) else some ((0 : Int32), ())))
def f_X6_areTrue (u_th : sS) (u_o1 : sW) : Option (Int32 × Unit) := f_X6_areTrue_L2 u_th u_o1 oF (0 : Int32)
abbrev rmX6_areTrue : Room := { frames := 2, cells := 0, slots := 0, locals := 50 }
def f_X1_howMany (p0 : Int32) : Option (Int32 × Unit) := (if p0 < 0 then some ((0 : Int32), ()) else (if p0 ≤ (3 : Int32) then some (((1 : Int32) <<< (((3 : Int32) * p0) &&& 31)), ()) else some ((0 : Int32), ())))
abbrev rmX1_howMany : Room := { frames := 0, cells := 0, slots := 0, locals := 0 }
def f_X1_personAt (p0 : Int32) (p1 : Int32) (p2 : Int32) : Option (Int32 × Unit) := some (((p0 >>> (((3 : Int32) * ((p2 - (1 : Int32)) - p1)) &&& 31)) &&& (7 : Int32)), ())
abbrev rmX1_personAt : Room := { frames := 0, cells := 0, slots := 0, locals := 0 }
abbrev rmX7_wheel : Room := { frames := 0, cells := 0, slots := 0, locals := 0 }
def f_X7_failedEvent (u_th : sT) : Option (Int32 × Unit) := some ((T_failedEvent u_th), ())
abbrev rmX7_failedEvent : Room := { frames := 0, cells := 0, slots := 0, locals := 0 }
def f_X7_reason (u_th : sT) : Option (Int32 × Unit) := some ((T_reason u_th), ())
abbrev rmX7_reason : Room := { frames := 0, cells := 0, slots := 0, locals := 0 }
def f_X7_turned (u_th : sT) : Option (Int32 × Unit) := some ((T_turned u_th), ())
abbrev rmX7_turned : Room := { frames := 0, cells := 0, slots := 0, locals := 0 }
def f_X7_load_J26 (v2 : Int32) (s0 : Int32) (u_th : sT) : Option (Int32 × sT) := (if s0 ≤ (99 : Int32) then (f_X9_setLoad (T_wheel u_th) v2 s0).bind fun z5 => some ((0 : Int32), (z5, (T_failedEvent u_th), (T_reason u_th), (T_turned u_th), (T_filling u_th), (T_asked u_th), (T_askedBefore u_th))) else some ((4 : Int32), u_th))
def f_X7_load (u_th : sT) (p1 : Int32) : Option (Int32 × sT) := (f_X9_lowest (T_wheel u_th)).bind fun z1 => (if p1 = 0 then f_X7_load_J26 z1.1 (0 : Int32) u_th else (f_X9_loadOf (T_wheel u_th) z1.1).bind fun z3 => f_X7_load_J26 z1.1 (z3.1 + p1) u_th)
abbrev rmX7_load : Room := { frames := 2, cells := 0, slots := 0, locals := 52 }
def f_X7_letIn (u_th : sT) (p1 : Int32) : Option (Int32 × sT) := (f_X9_isAboard (T_wheel u_th) p1).bind fun z1 => (if z1.1 = 0 then (f_X9_isTaken (T_wheel u_th)).bind fun z3 => (if z3.1 = 0 then (f_X9_lowest (T_wheel u_th)).bind fun z5 => (f_X9_seat (T_wheel u_th) p1 z5.1).bind fun z6 => some ((0 : Int32), (z6, (T_failedEvent u_th), (T_reason u_th), (T_turned u_th), (T_filling u_th), (T_asked u_th), (T_askedBefore u_th))) else some ((2 : Int32), u_th)) else some ((1 : Int32), u_th))
abbrev rmX7_letIn : Room := { frames := 2, cells := 0, slots := 0, locals := 52 }
def f_X7_letOut (u_th : sT) (p1 : Int32) : Option (Int32 × sT) := (f_X9_isLowest (T_wheel u_th) p1).bind fun z1 => (if z1.1 = 0 then some ((3 : Int32), u_th) else (f_X9_lowest (T_wheel u_th)).bind fun z3 => (f_X9_unseat (T_wheel u_th) z3.1).bind fun z4 => some ((0 : Int32), (z4, (T_failedEvent u_th), (T_reason u_th), (T_turned u_th), (T_filling u_th), (T_asked u_th), (T_askedBefore u_th))))
abbrev rmX7_letOut : Room := { frames := 2, cells := 0, slots := 0, locals := 51 }
def f_X7_happen_J46 (s1 : Int32) (u_th : sT) : Option (Int32 × sT) := (f_X9_turn (T_wheel u_th) s1).bind fun z15 => some ((0 : Int32), (z15, (T_failedEvent u_th), (T_reason u_th), (T_turned u_th), (T_filling u_th), (T_asked u_th), (T_askedBefore u_th)))
def f_X7_happen (u_th : sT) (p1 : Int32) : Option (Int32 × sT) := (if p1 = (94 : Int32) then (f_X9_letGo (T_wheel u_th)).bind fun z16 => some ((0 : Int32), (z16.2, (T_failedEvent u_th), (T_reason u_th), ((T_turned u_th) + z16.1), (T_filling u_th), (T_asked u_th), (T_askedBefore u_th))) else (f_X4_isMotion p1).bind fun z2 => (if z2.1 = 0 then (f_X4_isDigit p1).bind fun z4 => (if z4.1 = 0 then (f_X4_getsOut p1).bind fun z6 => (if z6.1 = 0 then (if p1 = (63 : Int32) then (f_X1_personAt (T_filling u_th) (T_askedBefore u_th) (T_asked u_th)).bind fun z10 => (f_X7_letIn ((T_wheel u_th), (T_failedEvent u_th), (T_reason u_th), (T_turned u_th), (T_filling u_th), (T_asked u_th), ((T_askedBefore u_th) + (1 : Int32))) z10.1).bind fun z11 => some (z11.1, z11.2) else (f_X7_letIn u_th (p1 - (65 : Int32))).bind fun z9 => some (z9.1, z9.2)) else (f_X7_letOut u_th (p1 - (97 : Int32))).bind fun z12 => some (z12.1, z12.2)) else (f_X7_load u_th (p1 - (48 : Int32))).bind fun z13 => some (z13.1, z13.2)) else (if p1 = (62 : Int32) then f_X7_happen_J46 (1 : Int32) u_th else f_X7_happen_J46 (-1 : Int32) u_th)))
abbrev rmX7_happen : Room := { frames := 3, cells := 0, slots := 0, locals := 83 }
def f_X7_tell_J76 (u_o1 : sW) (u_o2 : sP) (K_47 : Int32 → Int32 → sT → Option (Int32 × sT)) (v3 : Int32) (v5 : Int32) (s0 : Int32) (u_th : sT) : Option (Int32 × sT) := (if s0 = 0 then K_47 v3 (v5 + (1 : Int32)) u_th else some ((0 : Int32), ((T_wheel u_th), v5, s0, (T_turned u_th), (T_filling u_th), (T_asked u_th), (T_askedBefore u_th))))
def f_X7_tell_L47 (u_o1 : sW) (u_o2 : sP) : Nat → Int32 → Int32 → sT → Option (Int32 × sT)
  | 0, _, _, _ => none
  | n + 1, v3, v5, u_th => (f_X4_length u_o2).bind fun z3 => (if z3.1 ≤ v5 then some ((1 : Int32), u_th) else (if v5 = v3 then f_X7_tell_J76 u_o1 u_o2 (f_X7_tell_L47 u_o1 u_o2 n) v3 v5 (0 : Int32) u_th else (f_X4_signAt u_o2 v5).bind fun z6 => (f_X7_happen u_th z6.1).bind fun z7 => f_X7_tell_J76 u_o1 u_o2 (f_X7_tell_L47 u_o1 u_o2 n) v3 v5 z7.1 z7.2))
def f_X7_tell (u_th : sT) (u_o1 : sW) (u_o2 : sP) (p3 : Int32) (p4 : Int32) : Option (Int32 × sT) := (f_X9_copyFrom (T_wheel u_th) u_o1).bind fun z1 => (f_X4_asked u_o2).bind fun z2 => f_X7_tell_L47 u_o1 u_o2 oF p3 (0 : Int32) (z1, (-6 : Int32), (-6 : Int32), (0 : Int32), p4, z2.1, (0 : Int32))
abbrev rmX7_tell : Room := { frames := 4, cells := 0, slots := 0, locals := 114 }
def f_X3_getsOut (u_o0 : sW) (p1 : Int32) : Option (Int32 × Unit) := (if p1 = (8 : Int32) then some ((0 : Int32), ()) else (f_X9_isTaken u_o0).bind fun z2 => (if z2.1 = 0 then some ((0 : Int32), ()) else some ((1 : Int32), ())))
abbrev rmX3_getsOut : Room := { frames := 2, cells := 0, slots := 0, locals := 49 }
def f_X3_canBe (u_o0 : sW) (p1 : Int32) : Option (Int32 × Unit) := (if p1 = (8 : Int32) then some ((1 : Int32), ()) else (if p1 = (9 : Int32) then (f_X9_isTaken u_o0).bind fun z7 => (if z7.1 = 0 ∨ z7.1 = 1 then some (z7.1, ()) else none) else (f_X9_isLowest u_o0 p1).bind fun z3 => (if z3.1 = 0 then (f_X9_isAboard u_o0 p1).bind fun z5 => (if z5.1 = 0 then some ((1 : Int32), ()) else some ((0 : Int32), ())) else some ((1 : Int32), ()))))
abbrev rmX3_canBe : Room := { frames := 2, cells := 0, slots := 0, locals := 50 }
def f_X3_make_J30 (u_o0 : sW) : Option (sW) := (f_X9_letGo u_o0).bind fun z4 => some z4.2
def f_X3_make_J14 (v1 : Int32) (u_o0 : sW) : Option (sW) := (f_X10_isPerson v1).bind fun z2 => (if z2.1 = 0 then f_X3_make_J30 u_o0 else (f_X9_lowest u_o0).bind fun z5 => (f_X9_seat u_o0 v1 z5.1).bind fun z6 => f_X3_make_J30 z6)
def f_X3_make (u_o0 : sW) (p1 : Int32) : Option (sW) := (if p1 = (8 : Int32) then f_X3_make_J14 p1 u_o0 else (f_X9_lowest u_o0).bind fun z7 => (f_X9_unseat u_o0 z7.1).bind fun z8 => f_X3_make_J14 p1 z8)
abbrev rmX3_make : Room := { frames := 3, cells := 0, slots := 0, locals := 83 }
def f_X3_search_J68 (R_ : sW → Int32 → Int32 → Option (Int32 × sW)) (K_15 : Int32 → Int32 → Int32 → Int32 → Int32 → sW → Option (Int32 × sW)) (v1 : Int32) (v2 : Int32) (v3 : Int32) (v4 : Int32) (v5 : Int32) (s0 : Int32) (u_o0 : sW) : Option (Int32 × sW) := (f_X9_takeBack u_o0 v3 v4).bind fun z10 => (if s0 = 0 then K_15 v1 v2 v3 v4 (v5 + (1 : Int32)) z10 else some (v5, z10))
def f_X3_search_L15 (R_ : sW → Int32 → Int32 → Option (Int32 × sW)) : Nat → Int32 → Int32 → Int32 → Int32 → Int32 → sW → Option (Int32 × sW)
  | 0, _, _, _, _, _, _ => none
  | n + 1, v1, v2, v3, v4, v5, u_o0 => (if (10 : Int32) ≤ v5 then some ((-6 : Int32), u_o0) else (f_X3_canBe u_o0 v5).bind fun z4 => (if z4.1 = 0 then (f_X3_search_L15 R_ n) v1 v2 v3 v4 (v5 + (1 : Int32)) u_o0 else (f_X3_make u_o0 v5).bind fun z6 => (if (1 : Int32) < v2 then (R_ z6 v1 (v2 - (1 : Int32))).bind fun z8 => (if z8.1 = (-6 : Int32) then f_X3_search_J68 R_ (f_X3_search_L15 R_ n) v1 v2 v3 v4 v5 (0 : Int32) z8.2 else f_X3_search_J68 R_ (f_X3_search_L15 R_ n) v1 v2 v3 v4 v5 (1 : Int32) z8.2) else (f_X9_isLowest z6 v1).bind fun z12 => f_X3_search_J68 R_ (f_X3_search_L15 R_ n) v1 v2 v3 v4 v5 z12.1 z6)))
def f_X3_search : Nat → sW → Int32 → Int32 → Option (Int32 × sW)
  | 0, _, _, _ => none
  | d + 1, u_o0, p1, p2 => (f_X9_lowest u_o0).bind fun z1 => (f_X9_riderOf u_o0 z1.1).bind fun z2 => f_X3_search_L15 (f_X3_search d) oF p1 p2 z1.1 z2.1 (0 : Int32) u_o0
abbrev rmX3_search (d : Nat) : Room := { frames := 6 + d, cells := 0, slots := 0, locals := 300 + 60 * d }
def f_X3_first (u_o0 : sW) (p1 : Int32) (p2 : Int32) : Option (Int32 × sW) := (if p2 < (1 : Int32) then some ((-6 : Int32), u_o0) else (if p2 ≤ (3 : Int32) then (f_X3_search 4 u_o0 p1 p2).bind fun z3 => some (z3.1, z3.2) else some ((-6 : Int32), u_o0)))
abbrev rmX3_first : Room := { frames := 11, cells := 0, slots := 0, locals := 570 }
def f_X5_leastOf_L2 : Nat → Int32 → Int32 → Option (Int32 × Unit)
  | 0, _, _ => none
  | n + 1, v0, v1 => (if (8 : Int32) ≤ v1 then some ((-6 : Int32), ()) else (f_X10_isOf v0 v1).bind fun z2 => (if z2.1 = 0 then (f_X5_leastOf_L2 n) v0 (v1 + (1 : Int32)) else some (v1, ())))
def f_X5_leastOf (p0 : Int32) : Option (Int32 × Unit) := f_X5_leastOf_L2 oF p0 (0 : Int32)
abbrev rmX5_leastOf : Room := { frames := 1, cells := 0, slots := 0, locals := 25 }
def f_X5_carInFirst (u_th : sG) (p1 : Int32) : Option (Int32 × Unit) := (f_X10_at 8 (G_firstCars u_th) p1).bind fun z1 => some (z1.1, ())
abbrev rmX5_carInFirst : Room := { frames := 1, cells := 0, slots := 0, locals := 25 }
def f_X5_settle (u_th : sG) : Option (Int32 × sG) := (f_X9_greatestPull (G_wheel u_th)).bind fun z1 => (f_X9_friction (G_wheel u_th)).bind fun z2 => (if z1.1 ≤ z2.1 then (if (G_found u_th) = 0 then (f_X10_copyRow 8 8 (W_cars (G_wheel u_th)) (G_firstCars u_th)).bind fun z5 => some ((1 : Int32), ((G_wheel u_th), z5, (1 : Int32))) else some ((1 : Int32), u_th)) else some ((0 : Int32), u_th))
abbrev rmX5_settle : Room := { frames := 3, cells := 0, slots := 0, locals := 89 }
def f_X5_search_L33 (R_ : sG → Int32 → Int32 → Option (Int32 × sG)) : Nat → Int32 → Int32 → Int32 → Int32 → sG → Option (Int32 × sG)
  | 0, _, _, _, _, _ => none
  | n + 1, v1, v2, v3, v4, u_o0 => (if (8 : Int32) ≤ v4 then some (v3, u_o0) else (f_X9_riderOf (G_wheel u_o0) v4).bind fun z5 => (if z5.1 = (-6 : Int32) then (f_X9_seat (G_wheel u_o0) v2 v4).bind fun z7 => (R_ (z7, (G_firstCars u_o0), (G_found u_o0)) v1 (v2 + (1 : Int32))).bind fun z8 => (f_X9_unseat (G_wheel z8.2) v4).bind fun z9 => (f_X5_search_L33 R_ n) v1 v2 (v3 + z8.1) (v4 + (1 : Int32)) (z9, (G_firstCars z8.2), (G_found z8.2)) else (f_X5_search_L33 R_ n) v1 v2 v3 (v4 + (1 : Int32)) u_o0))
def f_X5_search : Nat → sG → Int32 → Int32 → Option (Int32 × sG)
  | 0, _, _, _ => none
  | d + 1, u_o0, p1, p2 => (if p2 < (8 : Int32) then (f_X10_isOf p1 p2).bind fun z2 => (if z2.1 = 0 then ((f_X5_search d) u_o0 p1 (p2 + (1 : Int32))).bind fun z10 => some (z10.1, z10.2) else f_X5_search_L33 (f_X5_search d) oF p1 p2 (0 : Int32) (0 : Int32) u_o0) else (f_X5_settle u_o0).bind fun z11 => some (z11.1, z11.2))
abbrev rmX5_search (d : Nat) : Room := { frames := 6 + d, cells := 0, slots := 0, locals := 300 + 60 * d }
def f_X5_count (u_th : sG) (u_o1 : sW) (p2 : Int32) : Option (Int32 × sG) := (f_X9_copyFrom (G_wheel u_th) u_o1).bind fun z1 => (f_X9_clear z1).bind fun z2 => (f_X5_leastOf p2).bind fun z3 => (if z3.1 = (-6 : Int32) then (f_X5_settle (z2, (G_firstCars u_th), (0 : Int32))).bind fun z7 => some (z7.1, z7.2) else (f_X9_seat z2 z3.1 (0 : Int32)).bind fun z5 => (f_X5_search 10 (z5, (G_firstCars u_th), (0 : Int32)) p2 (z3.1 + (1 : Int32))).bind fun z6 => some (((8 : Int32) * z6.1), z6.2))
abbrev rmX5_count : Room := { frames := 17, cells := 0, slots := 0, locals := 928 }
def f_X0_waiting_L4 (u_o0 : sW) : Nat → Int32 → Int32 → Option (Int32 × Unit)
  | 0, _, _ => none
  | n + 1, v1, v2 => (if (8 : Int32) ≤ v2 then some (v1, ()) else (f_X9_isAboard u_o0 v2).bind fun z2 => (if z2.1 = 0 then (f_X0_waiting_L4 u_o0 n) (v1 + (1 : Int32)) (v2 + (1 : Int32)) else (f_X0_waiting_L4 u_o0 n) v1 (v2 + (1 : Int32))))
def f_X0_waiting (u_o0 : sW) : Option (Int32 × Unit) := f_X0_waiting_L4 u_o0 oF (0 : Int32) (0 : Int32)
abbrev rmX0_waiting : Room := { frames := 2, cells := 0, slots := 0, locals := 50 }
def f_X0_sumLetGo (R_ : sW → Int32 → Int32 → Option (Int64 × sW)) (u_o0 : sW) (p1 : Int32) (p2 : Int32) : Option (Int64 × sW) := (f_X9_letGo u_o0).bind fun z1 => (R_ z1.2 p1 (p2 - (1 : Int32))).bind fun z2 => (f_X9_turn z2.2 (-z1.1)).bind fun z3 => some (z2.1, z3)
abbrev rmX0_sumLetGo (d : Nat) : Room := { frames := 6 + 2 * d + 1, cells := 0, slots := 0, locals := 300 + 120 * d + 60 }
def f_X0_sum_J34 (R_ : sW → Int32 → Int32 → Option (Int64 × sW)) (v1 : Int32) (v2 : Int32) (u_o0 : sW) : Option (Int64 × sW) := (f_X0_sumLetGo R_ u_o0 v1 v2).bind fun z5 => some (((840 : Int64) * z5.1), z5.2)
def f_X0_sum_L57 (R_ : sW → Int32 → Int32 → Option (Int64 × sW)) : Nat → Int32 → Int32 → Int32 → Int32 → Int64 → Int32 → sW → Option (Int64 × sW)
  | 0, _, _, _, _, _, _, _ => none
  | n + 1, v1, v2, v3, v4, v5, v7, u_o0 => (if (8 : Int32) ≤ v7 then (if v3 = 0 then none else some ((((((840 : Int32) / v3)).toInt64) * v5), u_o0)) else (f_X9_isAboard u_o0 v7).bind fun z10 => (if z10.1 = 0 then (f_X9_seat u_o0 v7 v4).bind fun z12 => (f_X0_sumLetGo R_ z12 v1 v2).bind fun z13 => (f_X9_unseat z13.2 v4).bind fun z14 => (f_X0_sum_L57 R_ n) v1 v2 v3 v4 (v5 + z13.1) (v7 + (1 : Int32)) z14 else (f_X0_sum_L57 R_ n) v1 v2 v3 v4 v5 (v7 + (1 : Int32)) u_o0))
def f_X0_sum : Nat → sW → Int32 → Int32 → Option (Int64 × sW)
  | 0, _, _, _ => none
  | d + 1, u_o0, p1, p2 => (if 0 < p2 then (f_X0_waiting u_o0).bind fun z2 => (f_X9_isTaken u_o0).bind fun z3 => (if z3.1 = 0 then (if 0 < z2.1 then (f_X9_lowest u_o0).bind fun z7 => f_X0_sum_L57 (f_X0_sum d) oF p1 p2 z2.1 z7.1 (0 : Int64) (0 : Int32) u_o0 else f_X0_sum_J34 (f_X0_sum d) p1 p2 u_o0) else f_X0_sum_J34 (f_X0_sum d) p1 p2 u_o0) else (f_X9_isLowest u_o0 p1).bind fun z15 => (if z15.1 = 0 then some ((0 : Int64), u_o0) else some ((1 : Int64), u_o0)))
abbrev rmX0_sum (d : Nat) : Room := { frames := 6 + 2 * d, cells := 0, slots := 0, locals := 300 + 120 * d }
def f_X0_allShares_L4 : Nat → Int32 → Int64 → Int32 → Option (Int64 × Unit)
  | 0, _, _, _ => none
  | n + 1, v0, v1, v3 => (if v0 ≤ v3 then some (v1, ()) else (if (3 : Int32) ≤ v3 then some (v1, ()) else (f_X0_allShares_L4 n) v0 (v1 * (840 : Int64)) (v3 + (1 : Int32))))
def f_X0_allShares (p0 : Int32) : Option (Int64 × Unit) := f_X0_allShares_L4 oF p0 (1 : Int64) (0 : Int32)
abbrev rmX0_allShares : Room := { frames := 0, cells := 0, slots := 0, locals := 0 }
def f_X0_shares (u_o0 : sW) (p1 : Int32) (p2 : Int32) : Option (Int64 × sW) := (if p2 < 0 then some ((0 : Int64), u_o0) else (if p2 ≤ (3 : Int32) then (f_X0_sum 4 u_o0 p1 p2).bind fun z3 => some (z3.1, z3.2) else some ((0 : Int64), u_o0)))
abbrev rmX0_shares : Room := { frames := 16, cells := 0, slots := 0, locals := 871 }
def f_X8_turned (u_th : sU) : Option (Int32 × Unit) := some ((U_turned u_th), ())
abbrev rmX8_turned : Room := { frames := 0, cells := 0, slots := 0, locals := 0 }
def f_X8_timesLowest (u_th : sU) (p1 : Int32) : Option (Int32 × Unit) := (f_X10_at 8 (U_timesLowest u_th) p1).bind fun z1 => some (z1.1, ())
abbrev rmX8_timesLowest : Room := { frames := 1, cells := 0, slots := 0, locals := 25 }
def f_X8_change_J23 (v1 : Int32) (v2 : Int32) (u_th : sU) : Option (sU) := (f_X9_isTaken (U_wheel u_th)).bind fun z3 => (if z3.1 = 0 then (f_X9_isAboard (U_wheel u_th) ((v1 / (2 : Int32)) - (v1 / (2 : Int32)) / (8 : Int32) * (8 : Int32))).bind fun z5 => (if z5.1 = 0 then (f_X9_seat (U_wheel u_th) ((v1 / (2 : Int32)) - (v1 / (2 : Int32)) / (8 : Int32) * (8 : Int32)) v2).bind fun z7 => some (z7, (U_timesLowest u_th), (U_turned u_th)) else some u_th) else some u_th)
def f_X8_change (u_th : sU) (p1 : Int32) : Option (sU) := (f_X9_lowest (U_wheel u_th)).bind fun z1 => (if (p1 - p1 / (2 : Int32) * (2 : Int32)) = (1 : Int32) then (f_X9_unseat (U_wheel u_th) z1.1).bind fun z8 => f_X8_change_J23 p1 z1.1 (z8, (U_timesLowest u_th), (U_turned u_th)) else f_X8_change_J23 p1 z1.1 u_th)
abbrev rmX8_change : Room := { frames := 2, cells := 0, slots := 0, locals := 52 }
def f_X8_take_J79 (u_o1 : sW) (K_27 : Int32 → Int32 → Int32 → sU → Option (sU)) (v3 : Int32) (v4 : Int32) (v5 : Int32) (u_th : sU) : Option (sU) := (f_X9_letGo (U_wheel u_th)).bind fun z8 => (f_X9_lowest z8.2).bind fun z9 => (f_X9_lowest z8.2).bind fun z10 => (f_X10_at 8 (U_timesLowest u_th) z10.1).bind fun z11 => (f_X10_put 8 (U_timesLowest u_th) z9.1 (z11.1 + (1 : Int32))).bind fun z12 => K_27 v3 v4 (v5 + (1 : Int32)) (z8.2, z12, ((U_turned u_th) + (if 0 ≤ z8.1 then z8.1 else 0 - z8.1)))
def f_X8_take_L27 (u_o1 : sW) : Nat → Int32 → Int32 → Int32 → sU → Option (sU)
  | 0, _, _, _, _ => none
  | n + 1, v3, v4, v5, u_th => (if v3 ≤ v5 then some u_th else (if (99 : Int32) ≤ v5 then some u_th else (f_J9_floorMod_7cf53 (((75 : Int32) * v4) + (74 : Int32)) (65537 : Int32)).bind fun z5 => (f_X8_change u_th z5.1).bind fun z6 => (if ((z5.1 / (16 : Int32)) - (z5.1 / (16 : Int32)) / (3 : Int32) * (3 : Int32)) = 0 then (f_X9_turn (U_wheel z6) (1 : Int32)).bind fun z13 => f_X8_take_J79 u_o1 (f_X8_take_L27 u_o1 n) v3 z5.1 v5 (z13, (U_timesLowest z6), (U_turned z6)) else f_X8_take_J79 u_o1 (f_X8_take_L27 u_o1 n) v3 z5.1 v5 z6)))
def f_X8_take (u_th : sU) (u_o1 : sW) (p2 : Int32) (p3 : Int32) : Option (sU) := (f_X9_copyFrom (U_wheel u_th) u_o1).bind fun z1 => (f_J7_fill_53178 8 (U_timesLowest u_th) (0 : Int32)).bind fun z2 => f_X8_take_L27 u_o1 oF p3 p2 (0 : Int32) (z1, z2, (0 : Int32))
abbrev rmX8_take : Room := { frames := 3, cells := 0, slots := 0, locals := 114 }
def f_X2_isKept (u_th : sI) : Option (Int32 × Unit) := (if (I_kept u_th) = 0 ∨ (I_kept u_th) = 1 then some ((I_kept u_th), ()) else none)
abbrev rmX2_isKept : Room := { frames := 0, cells := 0, slots := 0, locals := 0 }
def f_X2_keep (u_th : sI) (u_o1 : sW) (u_o2 : sS) : Option (sI) := (f_X9_copyFrom (I_wheel u_th) u_o1).bind fun z1 => (f_X6_copyFrom (I_sights u_th) u_o2).bind fun z2 => some (z1, z2, (1 : Int32))
abbrev rmX2_keep : Room := { frames := 3, cells := 0, slots := 0, locals := 114 }
def f_X2_giveBack (u_th : sI) (u_o1 : sW) (u_o2 : sS) : Option (sW × sS) := (f_X9_copyFrom u_o1 (I_wheel u_th)).bind fun z1 => (f_X6_copyFrom u_o2 (I_sights u_th)).bind fun z2 => some (z1, z2)
abbrev rmX2_giveBack : Room := { frames := 3, cells := 0, slots := 0, locals := 114 }
abbrev rmX10_imageOf : Room := { frames := 0, cells := 0, slots := 0, locals := 0 }
def f_X10_refuseText (u_pad : sP) : Option (Int32 × Unit) := (f_X4_firstFault u_pad).bind fun z1 => (if z1.1 = (-6 : Int32) then (f_X4_asked u_pad).bind fun z3 => (if z3.1 ≤ 0 then some ((0 : Int32), ()) else some ((-3 : Int32), ())) else some ((-5 : Int32), ()))
abbrev rmX10_refuseText : Room := { frames := 3, cells := 0, slots := 0, locals := 78 }
def f_X10_refuseEvening (u_wheel : sW) (u_pad : sP) (u_telling : sT) : Option (Int32 × sT) := (f_X10_refuseText u_pad).bind fun z1 => (if z1.1 = 0 then (f_X7_tell u_telling u_wheel u_pad (-6 : Int32) (0 : Int32)).bind fun z3 => (if z3.1 = 0 then some ((-5 : Int32), z3.2) else some ((0 : Int32), z3.2)) else some (z1.1, u_telling))
abbrev rmX10_refuseEvening : Room := { frames := 5, cells := 0, slots := 0, locals := 144 }
def f_X10_canBeLeftOut (u_wheel : sW) (u_pad : sP) (u_telling : sT) (p1 : Int32) (p2 : Int32) : Option (Int32 × sT) := (f_X4_signAt u_pad p1).bind fun z1 => (f_X4_isMotion z1.1).bind fun z2 => (if z2.1 = 0 then (f_X7_tell u_telling u_wheel u_pad p1 (0 : Int32)).bind fun z4 => (if z4.1 = 0 then some ((0 : Int32), z4.2) else (f_X9_lowest (T_wheel z4.2)).bind fun z7 => (if z7.1 = p2 then some ((1 : Int32), z4.2) else some ((0 : Int32), z4.2))) else some ((0 : Int32), u_telling))
abbrev rmX10_canBeLeftOut : Room := { frames := 5, cells := 0, slots := 0, locals := 144 }
def f_X10_tellMove (u_wheel : sW) (p1 : Int32) (p2 : Int32) : Option (Int32 × Unit) := (if p2 = (1 : Int32) then (f_X3_getsOut u_wheel p1).bind fun z4 => (if z4.1 = 0 then some ((0 : Int32), ()) else some ((1 : Int32), ())) else (f_X10_isPerson p1).bind fun z2 => (if z2.1 = 0 then some ((-6 : Int32), ()) else some (p1, ())))
abbrev rmX10_tellMove : Room := { frames := 3, cells := 0, slots := 0, locals := 74 }
def f_X10_endsAt (u_wheel : sW) (u_trial : sW) (u_pad : sP) (u_telling : sT) (p1 : Int32) (p2 : Int32) (p3 : Int32) : Option (Int32 × sW × sT) := (f_X9_copyFrom u_trial u_wheel).bind fun z1 => (f_X9_setWeight z1 p1 p2).bind fun z2 => (f_X7_tell u_telling z2 u_pad (-6 : Int32) (0 : Int32)).bind fun z3 => (if z3.1 = 0 then some ((0 : Int32), (z2, z3.2)) else (f_X9_lowest (T_wheel z3.2)).bind fun z6 => (if z6.1 = p3 then some ((1 : Int32), (z2, z3.2)) else some ((0 : Int32), (z2, z3.2))))
abbrev rmX10_endsAt : Room := { frames := 5, cells := 0, slots := 0, locals := 144 }
def f_X10_holds (u_wheel : sW) (u_pad : sP) (u_sights : sS) (u_telling : sT) (p1 : Int32) : Option (Int32 × sT) := (f_X7_tell u_telling u_wheel u_pad (-6 : Int32) p1).bind fun z1 => (if z1.1 = 0 then some ((0 : Int32), z1.2) else (f_X6_areTrue u_sights (T_wheel z1.2)).bind fun z4 => (if z4.1 = 0 then some ((0 : Int32), z1.2) else some ((1 : Int32), z1.2)))
abbrev rmX10_holds : Room := { frames := 5, cells := 0, slots := 0, locals := 144 }
def f_X10_weigh (u_wheel : sW) (p1 : Int32) (p2 : Int32) : Option (Int32 × sW) := (f_X10_isPerson p1).bind fun z1 => (if z1.1 = 0 then some ((-1 : Int32), u_wheel) else (if p2 < (1 : Int32) then some ((-2 : Int32), u_wheel) else (if p2 ≤ (99 : Int32) then (f_X9_weightOf u_wheel p1).bind fun z5 => (f_X9_setWeight u_wheel p1 p2).bind fun z6 => some (z5.1, z6) else some ((-2 : Int32), u_wheel))))
abbrev rmX10_weigh : Room := { frames := 2, cells := 0, slots := 0, locals := 52 }
def f_X10_drag (u_wheel : sW) (p1 : Int32) : Option (Int32 × sW) := (if p1 < 0 then some ((-2 : Int32), u_wheel) else (if p1 ≤ (9999 : Int32) then (f_X9_friction u_wheel).bind fun z3 => (f_X9_setFriction u_wheel p1).bind fun z4 => some (z3.1, z4) else some ((-2 : Int32), u_wheel)))
abbrev rmX10_drag : Room := { frames := 1, cells := 0, slots := 0, locals := 25 }
def f_X10_say (u_pad : sP) (p1 : Int32) : Option (Int32 × sP) := (if p1 < (33 : Int32) then some ((-2 : Int32), u_pad) else (if p1 ≤ (126 : Int32) then (f_X4_length u_pad).bind fun z3 => (if z3.1 < (60 : Int32) then (f_X4_write u_pad p1).bind fun z5 => (f_X4_length z5).bind fun z6 => some (z6.1, z5) else some ((-4 : Int32), u_pad)) else some ((-2 : Int32), u_pad)))
abbrev rmX10_say : Room := { frames := 2, cells := 0, slots := 0, locals := 51 }
def f_X10_wipe (u_pad : sP) : Option (Int32 × sP) := (f_X4_length u_pad).bind fun z1 => (f_X4_clear u_pad).bind fun z2 => some (z1.1, z2)
abbrev rmX10_wipe : Room := { frames := 1, cells := 0, slots := 0, locals := 24 }
def f_X10_fault (u_pad : sP) : Option (Int32 × Unit) := (f_X4_firstFault u_pad).bind fun z1 => some (z1.1, ())
abbrev rmX10_fault : Room := { frames := 3, cells := 0, slots := 0, locals := 78 }
def f_X10_judge (u_wheel : sW) (u_pad : sP) (u_telling : sT) (p1 : Int32) : Option (Int32 × sT) := (if p1 < 0 then some ((-2 : Int32), u_telling) else (if p1 ≤ (1 : Int32) then (f_X10_refuseText u_pad).bind fun z3 => (if z3.1 = 0 then (f_X7_tell u_telling u_wheel u_pad (-6 : Int32) (0 : Int32)).bind fun z5 => (if p1 = 0 then (f_X7_failedEvent z5.2).bind fun z8 => some (z8.1, z5.2) else (f_X7_reason z5.2).bind fun z7 => some (z7.1, z5.2)) else some (z3.1, u_telling)) else some ((-2 : Int32), u_telling)))
abbrev rmX10_judge : Room := { frames := 5, cells := 0, slots := 0, locals := 144 }
def f_X10_done (u_wheel : sW) (u_pad : sP) (u_telling : sT) : Option (Int32 × sW × sP × sT) := (f_X10_refuseEvening u_wheel u_pad u_telling).bind fun z1 => (if z1.1 = 0 then (f_X9_copyFrom u_wheel (T_wheel z1.2)).bind fun z4 => (f_X4_length u_pad).bind fun z5 => (f_X4_clear u_pad).bind fun z6 => some (z5.1, (z4, z6, z1.2)) else some (z1.1, (u_wheel, u_pad, z1.2)))
abbrev rmX10_done : Room := { frames := 6, cells := 0, slots := 0, locals := 169 }
def f_X10_foot (u_wheel : sW) : Option (Int32 × Unit) := (f_X9_lowest u_wheel).bind fun z1 => some (z1.1, ())
abbrev rmX10_foot : Room := { frames := 1, cells := 0, slots := 0, locals := 24 }
def f_X10_car (u_wheel : sW) (p1 : Int32) (p2 : Int32) : Option (Int32 × Unit) := (f_X10_isCar p1).bind fun z1 => (if z1.1 = 0 then some ((-1 : Int32), ()) else (if p2 < 0 then some ((-2 : Int32), ()) else (if p2 ≤ (2 : Int32) then (if p2 = 0 then (f_X9_riderOf u_wheel p1).bind fun z9 => some (z9.1, ()) else (if p2 = (1 : Int32) then (f_X9_loadOf u_wheel p1).bind fun z8 => some (z8.1, ()) else (f_X9_placeOf u_wheel p1).bind fun z7 => some (z7.1, ()))) else some ((-2 : Int32), ()))))
abbrev rmX10_car : Room := { frames := 2, cells := 0, slots := 0, locals := 51 }
def f_X10_pull (u_wheel : sW) : Option (Int32 × Unit) := (f_X9_pullNow u_wheel).bind fun z1 => some ((z1.1 + (1000000 : Int32)), ())
abbrev rmX10_pull : Room := { frames := 3, cells := 0, slots := 0, locals := 79 }
def f_X10_behind (u_wheel : sW) (u_pad : sP) (u_telling : sT) (p1 : Int32) : Option (Int32 × sT) := (if p1 < 0 then some ((-2 : Int32), u_telling) else (if p1 ≤ (2 : Int32) then (f_X10_refuseEvening u_wheel u_pad u_telling).bind fun z3 => (if z3.1 = 0 then (if p1 = 0 then (f_X9_lowest (T_wheel z3.2)).bind fun z11 => some (z11.1, z3.2) else (if p1 = (1 : Int32) then (f_X9_pullNow (T_wheel z3.2)).bind fun z9 => some ((z9.1 + (1000000 : Int32)), z3.2) else (f_X7_turned z3.2).bind fun z7 => some ((z7.1 + (1000 : Int32)), z3.2))) else some (z3.1, z3.2)) else some ((-2 : Int32), u_telling)))
abbrev rmX10_behind : Room := { frames := 6, cells := 0, slots := 0, locals := 169 }
def f_X10_leftOut_L28 (u_wheel : sW) (u_pad : sP) : Nat → Int32 → Int32 → Int32 → Int32 → sT → Option (Int32 × sT)
  | 0, _, _, _, _, _ => none
  | n + 1, v1, v3, v4, v5, u_telling => (f_X4_length u_pad).bind fun z5 => (if z5.1 ≤ v5 then (if v1 = (-1 : Int32) then some (v4, u_telling) else some ((-6 : Int32), u_telling)) else (f_X10_canBeLeftOut u_wheel u_pad u_telling v5 v3).bind fun z8 => (if z8.1 = 0 then (f_X10_leftOut_L28 u_wheel u_pad n) v1 v3 v4 (v5 + (1 : Int32)) z8.2 else (if v4 = v1 then some (v5, z8.2) else (f_X10_leftOut_L28 u_wheel u_pad n) v1 v3 (v4 + (1 : Int32)) (v5 + (1 : Int32)) z8.2)))
def f_X10_leftOut (u_wheel : sW) (u_pad : sP) (u_telling : sT) (p1 : Int32) : Option (Int32 × sT) := (f_X10_refuseEvening u_wheel u_pad u_telling).bind fun z1 => (if z1.1 = 0 then (f_X9_lowest (T_wheel z1.2)).bind fun z4 => f_X10_leftOut_L28 u_wheel u_pad oF p1 z4.1 (0 : Int32) (0 : Int32) z1.2 else some (z1.1, z1.2))
abbrev rmX10_leftOut : Room := { frames := 6, cells := 0, slots := 0, locals := 170 }
def f_X10_down_L70 (u_wheel : sW) : Nat → Int32 → Int32 → Int32 → sW → Option (Int32 × sW)
  | 0, _, _, _, _ => none
  | n + 1, v1, v2, v3, u_trial => (if (3 : Int32) < v3 then some ((-6 : Int32), u_trial) else (f_X3_first u_trial v1 v3).bind fun z11 => (if z11.1 = (-6 : Int32) then (f_X10_down_L70 u_wheel n) v1 v2 (v3 + (1 : Int32)) z11.2 else (if v2 = 0 then some (v3, z11.2) else (f_X10_tellMove u_wheel z11.1 v2).bind fun z14 => some (z14.1, z11.2))))
def f_X10_down (u_wheel : sW) (u_trial : sW) (p1 : Int32) (p2 : Int32) : Option (Int32 × sW) := (f_X10_isPerson p1).bind fun z1 => (if z1.1 = 0 then some ((-1 : Int32), u_trial) else (if p2 < 0 then some ((-2 : Int32), u_trial) else (if p2 ≤ (2 : Int32) then (f_X9_isAboard u_wheel p1).bind fun z5 => (if z5.1 = 0 then some ((-3 : Int32), u_trial) else (f_X9_isLowest u_wheel p1).bind fun z7 => (if z7.1 = 0 then (f_X9_copyFrom u_trial u_wheel).bind fun z9 => f_X10_down_L70 u_wheel oF p1 p2 (1 : Int32) z9 else (if p2 = 0 then some ((0 : Int32), u_trial) else some ((-6 : Int32), u_trial)))) else some ((-2 : Int32), u_trial))))
abbrev rmX10_down : Room := { frames := 12, cells := 0, slots := 0, locals := 596 }
def f_X10_pebbles_L25 (u_wheel : sW) : Nat → Int32 → Int32 → sW → Option (Int32 × sW)
  | 0, _, _, _ => none
  | n + 1, v1, v2, u_trial => (if (99 : Int32) < v2 then some ((-6 : Int32), u_trial) else (f_X9_copyFrom u_trial u_wheel).bind fun z6 => (f_X9_lowest z6).bind fun z7 => (f_X9_setLoad z6 z7.1 v2).bind fun z8 => (f_X9_letGo z8).bind fun z9 => (f_X9_isLowest z9.2 v1).bind fun z10 => (if z10.1 = 0 then (f_X10_pebbles_L25 u_wheel n) v1 (v2 + (1 : Int32)) z9.2 else some (v2, z9.2)))
def f_X10_pebbles (u_wheel : sW) (u_trial : sW) (p1 : Int32) : Option (Int32 × sW) := (f_X10_isPerson p1).bind fun z1 => (if z1.1 = 0 then some ((-1 : Int32), u_trial) else (f_X9_isAboard u_wheel p1).bind fun z3 => (if z3.1 = 0 then some ((-3 : Int32), u_trial) else f_X10_pebbles_L25 u_wheel oF p1 (0 : Int32) u_trial))
abbrev rmX10_pebbles : Room := { frames := 3, cells := 0, slots := 0, locals := 114 }
def f_X10_brake (u_wheel : sW) : Option (Int32 × Unit) := (f_X9_greatestPull u_wheel).bind fun z1 => some (z1.1, ())
abbrev rmX10_brake : Room := { frames := 3, cells := 0, slots := 0, locals := 81 }
def f_X10_balance_J43 (u_wheel : sW) (v1 : Int32) (v2 : Int32) (u_seating : sG) : Option (Int32 × sG) := (f_J6_bitCount_0f7a4 v1).bind fun z5 => (if z5.1 ≤ (5 : Int32) then (f_X5_count u_seating u_wheel v1).bind fun z7 => (if v2 = (-1 : Int32) then some (z7.1, z7.2) else (if z7.1 = 0 then some ((-6 : Int32), z7.2) else (f_X5_carInFirst z7.2 v2).bind fun z10 => some (z10.1, z7.2))) else some ((-4 : Int32), u_seating))
def f_X10_balance_J14 (u_wheel : sW) (v1 : Int32) (v2 : Int32) (u_seating : sG) : Option (Int32 × sG) := (if v1 < 0 then some ((-2 : Int32), u_seating) else (if v1 < (256 : Int32) then (if v2 = (-1 : Int32) then f_X10_balance_J43 u_wheel v1 v2 u_seating else (f_X10_isOf v1 v2).bind fun z11 => (if z11.1 = 0 then some ((-1 : Int32), u_seating) else f_X10_balance_J43 u_wheel v1 v2 u_seating)) else some ((-2 : Int32), u_seating)))
def f_X10_balance (u_wheel : sW) (u_seating : sG) (p1 : Int32) (p2 : Int32) : Option (Int32 × sG) := (if p2 = (-1 : Int32) then f_X10_balance_J14 u_wheel p1 p2 u_seating else (f_X10_isPerson p2).bind fun z13 => (if z13.1 = 0 then some ((-1 : Int32), u_seating) else f_X10_balance_J14 u_wheel p1 p2 u_seating))
abbrev rmX10_balance : Room := { frames := 18, cells := 0, slots := 0, locals := 955 }
def f_X10_could_L56 (u_wheel : sW) (u_pad : sP) : Nat → Int32 → Int32 → Int32 → Int32 → Int32 → Int32 → Int32 → sW → sT → Option (Int32 × sW × sT)
  | 0, _, _, _, _, _, _, _, _, _ => none
  | n + 1, v1, v2, v3, v5, v6, v7, v8, u_trial, u_telling => (if (99 : Int32) < v8 then (if v3 = 0 then some (v5, (u_trial, u_telling)) else (if v3 = (1 : Int32) then some (v6, (u_trial, u_telling)) else some (v7, (u_trial, u_telling)))) else (f_X10_endsAt u_wheel u_trial u_pad u_telling v1 v8 v2).bind fun z12 => (if z12.1 = 0 then (f_X10_could_L56 u_wheel u_pad n) v1 v2 v3 v5 v6 v7 (v8 + (1 : Int32)) z12.2.1 z12.2.2 else (if v6 = (-6 : Int32) then (f_X10_could_L56 u_wheel u_pad n) v1 v2 v3 (v5 + (1 : Int32)) v8 v8 (v8 + (1 : Int32)) z12.2.1 z12.2.2 else (f_X10_could_L56 u_wheel u_pad n) v1 v2 v3 (v5 + (1 : Int32)) v6 v8 (v8 + (1 : Int32)) z12.2.1 z12.2.2)))
def f_X10_could (u_wheel : sW) (u_trial : sW) (u_pad : sP) (u_telling : sT) (p1 : Int32) (p2 : Int32) (p3 : Int32) : Option (Int32 × sW × sT) := (f_X10_isPerson p1).bind fun z1 => (if z1.1 = 0 then some ((-1 : Int32), (u_trial, u_telling)) else (f_X10_isCar p2).bind fun z3 => (if z3.1 = 0 then some ((-1 : Int32), (u_trial, u_telling)) else (if p3 < 0 then some ((-2 : Int32), (u_trial, u_telling)) else (if p3 ≤ (2 : Int32) then (f_X10_refuseText u_pad).bind fun z7 => (if z7.1 = 0 then f_X10_could_L56 u_wheel u_pad oF p1 p2 p3 (0 : Int32) (-6 : Int32) (-6 : Int32) (1 : Int32) u_trial u_telling else some (z7.1, (u_trial, u_telling))) else some ((-2 : Int32), (u_trial, u_telling))))))
abbrev rmX10_could : Room := { frames := 6, cells := 0, slots := 0, locals := 171 }
def f_X10_seen (u_sights : sS) (p1 : Int32) (p2 : Int32) : Option (Int32 × sS) := (f_X10_isPerson p1).bind fun z1 => (if z1.1 = 0 then some ((-1 : Int32), u_sights) else (f_X10_isCar p2).bind fun z3 => (if z3.1 = 0 then some ((-1 : Int32), u_sights) else (f_X6_count u_sights).bind fun z5 => (if z5.1 < (6 : Int32) then (f_X6_add u_sights p1 p2).bind fun z7 => (f_X6_count z7).bind fun z8 => some (z8.1, z7) else some ((-4 : Int32), u_sights))))
abbrev rmX10_seen : Room := { frames := 2, cells := 0, slots := 0, locals := 52 }
def f_X10_forget (u_sights : sS) : Option (Int32 × sS) := (f_X6_count u_sights).bind fun z1 => (f_X6_clear u_sights).bind fun z2 => some (z1.1, z2)
abbrev rmX10_forget : Room := { frames := 1, cells := 0, slots := 0, locals := 24 }
def f_X10_filled_J105 (u_wheel : sW) (u_pad : sP) (u_sights : sS) (v1 : Int32) (v2 : Int32) (v5 : Int32) (s0 : Int32) (u_telling : sT) : Option (Int32 × sT) := (if s0 = 0 then (f_X1_personAt v5 v1 v2).bind fun z9 => some (z9.1, u_telling) else some ((-6 : Int32), u_telling))
def f_X10_filled_L38 (u_wheel : sW) (u_pad : sP) (u_sights : sS) : Nat → Int32 → Int32 → Int32 → Int32 → Int32 → Int32 → sT → Option (Int32 × sT)
  | 0, _, _, _, _, _, _, _ => none
  | n + 1, v1, v2, v3, v4, v5, v6, u_telling => (if v3 ≤ v6 then (if v1 = (-1 : Int32) then some (v4, u_telling) else (if v4 = 0 then f_X10_filled_J105 u_wheel u_pad u_sights v1 v2 v5 (1 : Int32) u_telling else (if v1 < 0 then f_X10_filled_J105 u_wheel u_pad u_sights v1 v2 v5 (1 : Int32) u_telling else (if v1 < v2 then f_X10_filled_J105 u_wheel u_pad u_sights v1 v2 v5 (0 : Int32) u_telling else f_X10_filled_J105 u_wheel u_pad u_sights v1 v2 v5 (1 : Int32) u_telling)))) else (f_X10_holds u_wheel u_pad u_sights u_telling v6).bind fun z12 => (if z12.1 = 0 then (f_X10_filled_L38 u_wheel u_pad u_sights n) v1 v2 v3 v4 v5 (v6 + (1 : Int32)) z12.2 else (if v5 = (-6 : Int32) then (f_X10_filled_L38 u_wheel u_pad u_sights n) v1 v2 v3 (v4 + (1 : Int32)) v6 (v6 + (1 : Int32)) z12.2 else (f_X10_filled_L38 u_wheel u_pad u_sights n) v1 v2 v3 (v4 + (1 : Int32)) v5 (v6 + (1 : Int32)) z12.2)))
def f_X10_filled (u_wheel : sW) (u_pad : sP) (u_sights : sS) (u_telling : sT) (p1 : Int32) : Option (Int32 × sT) := (f_X4_firstFault u_pad).bind fun z1 => (if z1.1 = (-6 : Int32) then (f_X4_asked u_pad).bind fun z3 => (f_X1_howMany z3.1).bind fun z4 => f_X10_filled_L38 u_wheel u_pad u_sights oF p1 z3.1 z4.1 (0 : Int32) (-6 : Int32) (0 : Int32) u_telling else some ((-5 : Int32), u_telling))
abbrev rmX10_filled : Room := { frames := 6, cells := 0, slots := 0, locals := 169 }
def f_X10_chance (u_wheel : sW) (u_trial : sW) (p1 : Int32) (p2 : Int32) (p3 : Int32) : Option (Int64 × sW) := (f_X10_isPerson p1).bind fun z1 => (if z1.1 = 0 then some ((-1000000000000000001 : Int64), u_trial) else (if p2 < 0 then some ((-1000000000000000002 : Int64), u_trial) else (if (3 : Int32) < p2 then some ((-1000000000000000002 : Int64), u_trial) else (if p3 < 0 then some ((-1000000000000000002 : Int64), u_trial) else (if p3 ≤ (1 : Int32) then (f_X9_copyFrom u_trial u_wheel).bind fun z7 => (f_X0_shares z7 p1 p2).bind fun z8 => (f_X0_allShares p2).bind fun z9 => (f_X10_greatestDivisor z8.1 z9.1).bind fun z10 => (if 0 < (lg_cmp z10.1 (0 : Int64)) then (if p3 = 0 then (if z10.1 = 0 then none else some ((z8.1 / z10.1), z8.2)) else (if z10.1 = 0 then none else some ((z9.1 / z10.1), z8.2))) else some (((p3).toInt64), z8.2)) else some ((-1000000000000000002 : Int64), u_trial))))))
abbrev rmX10_chance : Room := { frames := 17, cells := 0, slots := 0, locals := 897 }
def f_X10_year_J14 (u_wheel : sW) (v1 : Int32) (v2 : Int32) (v3 : Int32) (u_turns : sU) : Option (Int32 × sU) := (if v1 < 0 then some ((-2 : Int32), u_turns) else (if (9999 : Int32) < v1 then some ((-2 : Int32), u_turns) else (if v2 < (1 : Int32) then some ((-2 : Int32), u_turns) else (if v2 ≤ (99 : Int32) then (f_X8_take u_turns u_wheel v1 v2).bind fun z6 => (if v3 = (-1 : Int32) then (f_X8_turned z6).bind fun z9 => some (z9.1, z6) else (f_X8_timesLowest z6 v3).bind fun z8 => some (z8.1, z6)) else some ((-2 : Int32), u_turns)))))
def f_X10_year (u_wheel : sW) (u_turns : sU) (p1 : Int32) (p2 : Int32) (p3 : Int32) : Option (Int32 × sU) := (if p3 = (-1 : Int32) then f_X10_year_J14 u_wheel p1 p2 p3 u_turns else (f_X10_isCar p3).bind fun z10 => (if z10.1 = 0 then some ((-1 : Int32), u_turns) else f_X10_year_J14 u_wheel p1 p2 p3 u_turns))
abbrev rmX10_year : Room := { frames := 4, cells := 0, slots := 0, locals := 143 }
def f_X10_image (u_wheel : sW) (u_sights : sS) (u_firstImage : sI) (u_secondImage : sI) (p1 : Int32) : Option (Int32 × sI × sI) := (if p1 < 0 then some ((-2 : Int32), (u_firstImage, u_secondImage)) else (if p1 ≤ (1 : Int32) then (if p1 = 0 then (f_X2_keep u_firstImage u_wheel u_sights).bind fun z5 => some ((1 : Int32), (z5, u_secondImage)) else (f_X2_keep u_secondImage u_wheel u_sights).bind fun z6 => some ((1 : Int32), (u_firstImage, z6))) else some ((-2 : Int32), (u_firstImage, u_secondImage))))
abbrev rmX10_image : Room := { frames := 4, cells := 0, slots := 0, locals := 140 }
def f_X10_restore (u_wheel : sW) (u_sights : sS) (u_firstImage : sI) (u_secondImage : sI) (p1 : Int32) : Option (Int32 × sW × sS) := (if p1 < 0 then some ((-2 : Int32), (u_wheel, u_sights)) else (if p1 ≤ (1 : Int32) then (if p1 = 0 then (f_X2_isKept u_firstImage).bind fun z5 => (if z5.1 = 0 then some ((-3 : Int32), (u_wheel, u_sights)) else (f_X2_giveBack u_firstImage u_wheel u_sights).bind fun z7 => some ((1 : Int32), (z7.1, z7.2))) else (f_X2_isKept u_secondImage).bind fun z8 => (if z8.1 = 0 then some ((-3 : Int32), (u_wheel, u_sights)) else (f_X2_giveBack u_secondImage u_wheel u_sights).bind fun z10 => some ((1 : Int32), (z10.1, z10.2)))) else some ((-2 : Int32), (u_wheel, u_sights))))
abbrev rmX10_restore : Room := { frames := 4, cells := 0, slots := 0, locals := 140 }
def f_X10_told_J48 (u_wheel : sW) (u_pad : sP) (u_sights : sS) (v1 : Int32) : Option (Int32 × Unit) := (if v1 = 0 then (f_X4_length u_pad).bind fun z4 => some (z4.1, ()) else (if v1 = 1 then (f_X9_friction u_wheel).bind fun z6 => some (z6.1, ()) else (if v1 = 2 then (f_X6_count u_sights).bind fun z8 => some (z8.1, ()) else (if v1 = 3 then (f_X9_takenCars u_wheel).bind fun z10 => some (z10.1, ()) else some ((-2 : Int32), ())))))
def f_X10_told_J24 (u_wheel : sW) (u_pad : sP) (u_sights : sS) (v1 : Int32) : Option (Int32 × Unit) := (if v1 < (20 : Int32) then f_X10_told_J48 u_wheel u_pad u_sights v1 else (if (28 : Int32) ≤ v1 then f_X10_told_J48 u_wheel u_pad u_sights v1 else (f_X9_carOf u_wheel (v1 - (20 : Int32))).bind fun z12 => some (z12.1, ())))
def f_X10_told (u_wheel : sW) (u_pad : sP) (u_sights : sS) (p1 : Int32) : Option (Int32 × Unit) := (if p1 < (10 : Int32) then f_X10_told_J24 u_wheel u_pad u_sights p1 else (if (18 : Int32) ≤ p1 then f_X10_told_J24 u_wheel u_pad u_sights p1 else (f_X9_weightOf u_wheel (p1 - (10 : Int32))).bind fun z14 => some (z14.1, ())))
abbrev rmX10_told : Room := { frames := 2, cells := 0, slots := 0, locals := 51 }
def f_X11_in (p0 : Int32) (p1 : Int32) (p2 : Int32) : Option (Int32 × Unit) := (if p0 < p1 then some ((0 : Int32), ()) else (if p2 < p0 then some ((0 : Int32), ()) else some ((1 : Int32), ())))
abbrev rmX11_in : Room := { frames := 0, cells := 0, slots := 0, locals := 0 }
def f_X11_has (p0 : Int32) (p1 : Int32) : Option (Int32 × Unit) := (if ((p0 >>> (p1 &&& 31)) &&& (1 : Int32)) = (1 : Int32) then some ((1 : Int32), ()) else some ((0 : Int32), ()))
abbrev rmX11_has : Room := { frames := 0, cells := 0, slots := 0, locals := 0 }
def f_X11_is8 (p0 : Int32) : Option (Int32 × Unit) := (f_X11_in p0 (0 : Int32) (7 : Int32)).bind fun z1 => (if z1.1 = 0 ∨ z1.1 = 1 then some (z1.1, ()) else none)
abbrev rmX11_is8 : Room := { frames := 1, cells := 0, slots := 0, locals := 26 }
def f_X11_arm_J33 (v0 : Int32) (s0 : Int32) : Option (Int32 × Unit) := (if (4 : Int32) ≤ v0 then some ((-s0), ()) else some (s0, ()))
def f_X11_arm_J12 (v0 : Int32) (s0 : Int32) : Option (Int32 × Unit) := (if s0 = 0 then f_X11_arm_J33 v0 (0 : Int32) else (if s0 = (2 : Int32) then f_X11_arm_J33 v0 (10 : Int32) else f_X11_arm_J33 v0 (7 : Int32)))
def f_X11_arm (p0 : Int32) : Option (Int32 × Unit) := (if (4 : Int32) ≤ p0 then f_X11_arm_J12 p0 (p0 - (4 : Int32)) else f_X11_arm_J12 p0 p0)
abbrev rmX11_arm : Room := { frames := 0, cells := 0, slots := 0, locals := 0 }
def f_X11_weigh (u_th : sM) (p1 : Int32) (p2 : Int32) : Option (Int32 × sM) := (f_X11_is8 p1).bind fun z1 => (if z1.1 = 0 then some ((-1 : Int32), u_th) else (f_X11_in p2 (1 : Int32) (99 : Int32)).bind fun z3 => (if z3.1 = 0 then some ((-2 : Int32), u_th) else (if p1 < 0 ∨ 8 ≤ p1.toNatClampNeg then none else (if p1 < 0 ∨ 8 ≤ p1.toNatClampNeg then none else some (((M_weight u_th) p1.toNatClampNeg), ((upd (M_weight u_th) p1.toNatClampNeg p2), (M_sits u_th), (M_stones u_th), (M_at u_th), (M_drag u_th), (M_sights u_th), (M_sight u_th), (M_signs u_th), (M_pad u_th), (M_foot u_th), (M_turned u_th), (M_bothWays u_th), (M_now u_th), (M_heap u_th), (M_reason u_th), (M_image u_th), (M_isKept u_th)))))))
abbrev rmX11_weigh : Room := { frames := 2, cells := 0, slots := 0, locals := 50 }
def f_X11_drag (u_th : sM) (p1 : Int32) : Option (Int32 × sM) := (f_X11_in p1 (0 : Int32) (9999 : Int32)).bind fun z1 => (if z1.1 = 0 then some ((-2 : Int32), u_th) else some ((M_drag u_th), ((M_weight u_th), (M_sits u_th), (M_stones u_th), (M_at u_th), p1, (M_sights u_th), (M_sight u_th), (M_signs u_th), (M_pad u_th), (M_foot u_th), (M_turned u_th), (M_bothWays u_th), (M_now u_th), (M_heap u_th), (M_reason u_th), (M_image u_th), (M_isKept u_th))))
abbrev rmX11_drag : Room := { frames := 1, cells := 0, slots := 0, locals := 26 }
def f_X11_say (u_th : sM) (p1 : Int32) : Option (Int32 × sM) := (f_X11_in p1 (33 : Int32) (126 : Int32)).bind fun z1 => (if z1.1 = 0 then some ((-2 : Int32), u_th) else (if (M_signs u_th) = (60 : Int32) then some ((-4 : Int32), u_th) else (if (M_signs u_th) < 0 ∨ 60 ≤ (M_signs u_th).toNatClampNeg then none else some (((M_signs u_th) + (1 : Int32)), ((M_weight u_th), (M_sits u_th), (M_stones u_th), (M_at u_th), (M_drag u_th), (M_sights u_th), (M_sight u_th), ((M_signs u_th) + (1 : Int32)), (upd (M_pad u_th) (M_signs u_th).toNatClampNeg p1), (M_foot u_th), (M_turned u_th), (M_bothWays u_th), (M_now u_th), (M_heap u_th), (M_reason u_th), (M_image u_th), (M_isKept u_th))))))
abbrev rmX11_say : Room := { frames := 1, cells := 0, slots := 0, locals := 26 }
def f_X11_wipe (u_th : sM) : Option (Int32 × sM) := some ((M_signs u_th), ((M_weight u_th), (M_sits u_th), (M_stones u_th), (M_at u_th), (M_drag u_th), (M_sights u_th), (M_sight u_th), (0 : Int32), (M_pad u_th), (M_foot u_th), (M_turned u_th), (M_bothWays u_th), (M_now u_th), (M_heap u_th), (M_reason u_th), (M_image u_th), (M_isKept u_th)))
abbrev rmX11_wipe : Room := { frames := 0, cells := 0, slots := 0, locals := 0 }
def f_X11_faultOf_J100 (u_th : sM) (K_4 : Int32 → Int32 → Option (Int32 × Unit)) (v1 : Int32) (v2 : Int32) (s0 : Int32) : Option (Int32 × Unit) := (if s0 = 0 then some (v2, ()) else K_4 v1 (v2 + (1 : Int32)))
def f_X11_faultOf_J31 (u_th : sM) (K_4 : Int32 → Int32 → Option (Int32 × Unit)) (v2 : Int32) (v3 : Int32) (s0 : Int32) (s1 : Int32) : Option (Int32 × Unit) := (f_X11_in v3 (65 : Int32) (72 : Int32)).bind fun z4 => (if z4.1 = 0 then (f_X11_in v3 (97 : Int32) (104 : Int32)).bind fun z7 => (if z7.1 = 0 then (f_X11_in v3 (48 : Int32) (57 : Int32)).bind fun z9 => (if z9.1 = 0 then (if v3 = (94 : Int32) then f_X11_faultOf_J100 u_th K_4 (s0 + s1) v2 (1 : Int32) else (if v3 = (60 : Int32) then f_X11_faultOf_J100 u_th K_4 (s0 + s1) v2 (1 : Int32) else (if v3 = (62 : Int32) then f_X11_faultOf_J100 u_th K_4 (s0 + s1) v2 (1 : Int32) else (if v3 = (63 : Int32) then (if (4 : Int32) ≤ (s0 + s1) then f_X11_faultOf_J100 u_th K_4 (s0 + s1) v2 (0 : Int32) else f_X11_faultOf_J100 u_th K_4 (s0 + s1) v2 (1 : Int32)) else f_X11_faultOf_J100 u_th K_4 (s0 + s1) v2 (0 : Int32))))) else f_X11_faultOf_J100 u_th K_4 (s0 + s1) v2 (1 : Int32)) else f_X11_faultOf_J100 u_th K_4 (s0 + s1) v2 (1 : Int32)) else f_X11_faultOf_J100 u_th K_4 (s0 + s1) v2 (1 : Int32))
def f_X11_faultOf_L4 (u_th : sM) : Nat → Int32 → Int32 → Option (Int32 × Unit)
  | 0, _, _ => none
  | n + 1, v1, v2 => (if (M_signs u_th) ≤ v2 then some ((-6 : Int32), ()) else (if v2 < 0 ∨ 60 ≤ v2.toNatClampNeg then none else (if ((M_pad u_th) v2.toNatClampNeg) = (63 : Int32) then f_X11_faultOf_J31 u_th (f_X11_faultOf_L4 u_th n) v2 ((M_pad u_th) v2.toNatClampNeg) v1 (1 : Int32) else f_X11_faultOf_J31 u_th (f_X11_faultOf_L4 u_th n) v2 ((M_pad u_th) v2.toNatClampNeg) v1 (0 : Int32))))
def f_X11_faultOf (u_th : sM) : Option (Int32 × Unit) := f_X11_faultOf_L4 u_th oF (0 : Int32) (0 : Int32)
abbrev rmX11_faultOf : Room := { frames := 1, cells := 0, slots := 0, locals := 26 }
def f_X11_fault (u_th : sM) : Option (Int32 × Unit) := (f_X11_faultOf u_th).bind fun z1 => some (z1.1, ())
abbrev rmX11_fault : Room := { frames := 2, cells := 0, slots := 0, locals := 54 }
def f_X11_opens_L4 (u_th : sM) : Nat → Int32 → Int32 → Option (Int32 × Unit)
  | 0, _, _ => none
  | n + 1, v1, v2 => (if (M_signs u_th) ≤ v2 then some (v1, ()) else (if v2 < 0 ∨ 60 ≤ v2.toNatClampNeg then none else (if ((M_pad u_th) v2.toNatClampNeg) = (63 : Int32) then (f_X11_opens_L4 u_th n) (v1 + (1 : Int32)) (v2 + (1 : Int32)) else (f_X11_opens_L4 u_th n) (v1 + (0 : Int32)) (v2 + (1 : Int32)))))
def f_X11_opens (u_th : sM) : Option (Int32 × Unit) := f_X11_opens_L4 u_th oF (0 : Int32) (0 : Int32)
abbrev rmX11_opens : Room := { frames := 0, cells := 0, slots := 0, locals := 0 }
def f_X11_asNow_L20 : Nat → Int32 → sM → Option (sM)
  | 0, _, _ => none
  | n + 1, v1, u_th => (if (8 : Int32) ≤ v1 then some u_th else (if v1 < 0 ∨ 8 ≤ v1.toNatClampNeg then none else (if v1 < 0 ∨ 8 ≤ v1.toNatClampNeg then none else (if v1 < 0 ∨ 8 ≤ v1.toNatClampNeg then none else (if v1 < 0 ∨ 8 ≤ v1.toNatClampNeg then none else (f_X11_asNow_L20 n) (v1 + (1 : Int32)) ((M_weight u_th), (M_sits u_th), (M_stones u_th), (M_at u_th), (M_drag u_th), (M_sights u_th), (M_sight u_th), (M_signs u_th), (M_pad u_th), (M_foot u_th), (M_turned u_th), (M_bothWays u_th), (upd (M_now u_th) v1.toNatClampNeg ((M_sits u_th) v1.toNatClampNeg)), (upd (M_heap u_th) v1.toNatClampNeg ((M_stones u_th) v1.toNatClampNeg)), (M_reason u_th), (M_image u_th), (M_isKept u_th)))))))
def f_X11_asNow (u_th : sM) : Option (sM) := f_X11_asNow_L20 oF (0 : Int32) ((M_weight u_th), (M_sits u_th), (M_stones u_th), (M_at u_th), (M_drag u_th), (M_sights u_th), (M_sight u_th), (M_signs u_th), (M_pad u_th), (M_at u_th), (0 : Int32), (0 : Int32), (M_now u_th), (M_heap u_th), (M_reason u_th), (M_image u_th), (M_isKept u_th))
abbrev rmX11_asNow : Room := { frames := 0, cells := 0, slots := 0, locals := 0 }
def f_X11_pullAt_J40 (u_th : sM) (K_4 : Int32 → Int32 → Int32 → Option (Int32 × Unit)) (v1 : Int32) (v2 : Int32) (v3 : Int32) (s0 : Int32) (s1 : Int32) : Option (Int32 × Unit) := (f_X11_arm (((v3 - v1) + (8 : Int32)) - ((v3 - v1) + (8 : Int32)) / (8 : Int32) * (8 : Int32))).bind fun z7 => K_4 v1 (v2 + ((s0 + s1) * z7.1)) (v3 + (1 : Int32))
def f_X11_pullAt_L4 (u_th : sM) : Nat → Int32 → Int32 → Int32 → Option (Int32 × Unit)
  | 0, _, _, _ => none
  | n + 1, v1, v2, v3 => (if (8 : Int32) ≤ v3 then some (v2, ()) else (if v3 < 0 ∨ 8 ≤ v3.toNatClampNeg then none else (if v3 < 0 ∨ 8 ≤ v3.toNatClampNeg then none else (if 0 ≤ ((M_now u_th) v3.toNatClampNeg) then (if v3 < 0 ∨ 8 ≤ v3.toNatClampNeg then none else (if ((M_now u_th) v3.toNatClampNeg) < 0 ∨ 8 ≤ ((M_now u_th) v3.toNatClampNeg).toNatClampNeg then none else f_X11_pullAt_J40 u_th (f_X11_pullAt_L4 u_th n) v1 v2 v3 ((M_heap u_th) v3.toNatClampNeg) ((M_weight u_th) ((M_now u_th) v3.toNatClampNeg).toNatClampNeg))) else f_X11_pullAt_J40 u_th (f_X11_pullAt_L4 u_th n) v1 v2 v3 ((M_heap u_th) v3.toNatClampNeg) (0 : Int32)))))
def f_X11_pullAt (u_th : sM) (p1 : Int32) : Option (Int32 × Unit) := f_X11_pullAt_L4 u_th oF p1 (0 : Int32) (0 : Int32)
abbrev rmX11_pullAt : Room := { frames := 1, cells := 0, slots := 0, locals := 26 }
def f_X11_letGo_L36 : Nat → Int32 → sM → Option (sM)
  | 0, _, _ => none
  | n + 1, v2, u_th => (f_X11_pullAt u_th (M_foot u_th)).bind fun z4 => (if (v2 * z4.1) ≤ (M_drag u_th) then some u_th else (f_X11_letGo_L36 n) v2 ((M_weight u_th), (M_sits u_th), (M_stones u_th), (M_at u_th), (M_drag u_th), (M_sights u_th), (M_sight u_th), (M_signs u_th), (M_pad u_th), ((((M_foot u_th) + v2) + (8 : Int32)) - (((M_foot u_th) + v2) + (8 : Int32)) / (8 : Int32) * (8 : Int32)), ((M_turned u_th) + v2), ((M_bothWays u_th) + (1 : Int32)), (M_now u_th), (M_heap u_th), (M_reason u_th), (M_image u_th), (M_isKept u_th)))
def f_X11_letGo (u_th : sM) : Option (sM) := (f_X11_pullAt u_th (M_foot u_th)).bind fun z1 => (if z1.1 ≤ (M_drag u_th) then (if (-(M_drag u_th)) ≤ z1.1 then f_X11_letGo_L36 oF (0 : Int32) u_th else f_X11_letGo_L36 oF (-1 : Int32) u_th) else f_X11_letGo_L36 oF (1 : Int32) u_th)
abbrev rmX11_letGo : Room := { frames := 2, cells := 0, slots := 0, locals := 54 }
def f_X11_carOf_L5 (u_th : sM) : Nat → Int32 → Int32 → Int32 → Option (Int32 × Unit)
  | 0, _, _, _ => none
  | n + 1, v1, v2, v3 => (if (8 : Int32) ≤ v3 then some (v2, ()) else (if v3 < 0 ∨ 8 ≤ v3.toNatClampNeg then none else (if ((M_now u_th) v3.toNatClampNeg) = v1 then (f_X11_carOf_L5 u_th n) v1 v3 (v3 + (1 : Int32)) else (f_X11_carOf_L5 u_th n) v1 v2 (v3 + (1 : Int32)))))
def f_X11_carOf (u_th : sM) (p1 : Int32) : Option (Int32 × Unit) := f_X11_carOf_L5 u_th oF p1 (-6 : Int32) (0 : Int32)
abbrev rmX11_carOf : Room := { frames := 0, cells := 0, slots := 0, locals := 0 }
def f_X11_goText_J447 (K_37 : Int32 → Int32 → Int32 → Int32 → sM → Option (Int32 × sM)) (v1 : Int32) (v2 : Int32) (v3 : Int32) (v4 : Int32) (u_th : sM) : Option (Int32 × sM) := (if (M_reason u_th) ≤ 0 then K_37 v1 v2 v3 (v4 + (1 : Int32)) u_th else some (v4, u_th))
def f_X11_goText_J197 (K_37 : Int32 → Int32 → Int32 → Int32 → sM → Option (Int32 × sM)) (v1 : Int32) (v2 : Int32) (v3 : Int32) (v4 : Int32) (s1 : Int32) (s2 : Int32) (u_th : sM) : Option (Int32 × sM) := (if s1 < 0 ∨ 8 ≤ s1.toNatClampNeg then none else f_X11_goText_J447 K_37 v1 v2 v3 v4 ((M_weight u_th), (M_sits u_th), (M_stones u_th), (M_at u_th), (M_drag u_th), (M_sights u_th), (M_sight u_th), (M_signs u_th), (M_pad u_th), (M_foot u_th), (M_turned u_th), (M_bothWays u_th), (upd (M_now u_th) s1.toNatClampNeg s2), (M_heap u_th), (M_reason u_th), (M_image u_th), (M_isKept u_th)))
def f_X11_goText_J188 (K_37 : Int32 → Int32 → Int32 → Int32 → sM → Option (Int32 × sM)) (v1 : Int32) (v2 : Int32) (v3 : Int32) (v4 : Int32) (s1 : Int32) (u_th : sM) : Option (Int32 × sM) := (if (M_foot u_th) < 0 ∨ 8 ≤ (M_foot u_th).toNatClampNeg then none else f_X11_goText_J197 K_37 v1 v2 v3 v4 s1 ((M_now u_th) (M_foot u_th).toNatClampNeg) u_th)
def f_X11_goText_J159 (K_37 : Int32 → Int32 → Int32 → Int32 → sM → Option (Int32 × sM)) (v1 : Int32) (v2 : Int32) (v3 : Int32) (v4 : Int32) (v6 : Int32) (s1 : Int32) (u_th : sM) : Option (Int32 × sM) := (if s1 = 0 then (if v4 = v2 then f_X11_goText_J188 K_37 v1 v2 v3 v4 (M_foot u_th) ((M_weight u_th), (M_sits u_th), (M_stones u_th), (M_at u_th), (M_drag u_th), (M_sights u_th), (M_sight u_th), (M_signs u_th), (M_pad u_th), (M_foot u_th), (M_turned u_th), (M_bothWays u_th), (M_now u_th), (M_heap u_th), s1, (M_image u_th), (M_isKept u_th)) else f_X11_goText_J197 K_37 v1 v2 v3 v4 (M_foot u_th) v6 ((M_weight u_th), (M_sits u_th), (M_stones u_th), (M_at u_th), (M_drag u_th), (M_sights u_th), (M_sight u_th), (M_signs u_th), (M_pad u_th), (M_foot u_th), (M_turned u_th), (M_bothWays u_th), (M_now u_th), (M_heap u_th), s1, (M_image u_th), (M_isKept u_th))) else f_X11_goText_J188 K_37 v1 v2 v3 v4 (M_foot u_th) ((M_weight u_th), (M_sits u_th), (M_stones u_th), (M_at u_th), (M_drag u_th), (M_sights u_th), (M_sight u_th), (M_signs u_th), (M_pad u_th), (M_foot u_th), (M_turned u_th), (M_bothWays u_th), (M_now u_th), (M_heap u_th), s1, (M_image u_th), (M_isKept u_th)))
def f_X11_goText_J117 (K_37 : Int32 → Int32 → Int32 → Int32 → sM → Option (Int32 × sM)) (v1 : Int32) (v2 : Int32) (v4 : Int32) (v6 : Int32) (s0 : Int32) (u_th : sM) : Option (Int32 × sM) := (if v4 = v2 then f_X11_goText_J159 K_37 v1 v2 s0 v4 v6 (0 : Int32) u_th else (f_X11_carOf u_th v6).bind fun z10 => (if z10.1 < 0 then (if (M_foot u_th) < 0 ∨ 8 ≤ (M_foot u_th).toNatClampNeg then none else (if ((M_now u_th) (M_foot u_th).toNatClampNeg) < 0 then f_X11_goText_J159 K_37 v1 v2 s0 v4 v6 (0 : Int32) u_th else f_X11_goText_J159 K_37 v1 v2 s0 v4 v6 (2 : Int32) u_th)) else f_X11_goText_J159 K_37 v1 v2 s0 v4 v6 (1 : Int32) u_th))
def f_X11_goText_J95 (K_37 : Int32 → Int32 → Int32 → Int32 → sM → Option (Int32 × sM)) (v1 : Int32) (v2 : Int32) (v3 : Int32) (v4 : Int32) (v5 : Int32) (s0 : Int32) (u_th : sM) : Option (Int32 × sM) := (if v5 = (63 : Int32) then (if v3 ≤ (1 : Int32) then f_X11_goText_J117 K_37 v1 v2 v4 s0 v3 u_th else f_X11_goText_J117 K_37 v1 v2 v4 s0 (v3 / (8 : Int32)) u_th) else f_X11_goText_J117 K_37 v1 v2 v4 s0 v3 u_th)
def f_X11_goText_J74 (K_37 : Int32 → Int32 → Int32 → Int32 → sM → Option (Int32 × sM)) (v1 : Int32) (v2 : Int32) (v3 : Int32) (v4 : Int32) (v5 : Int32) (u_th : sM) : Option (Int32 × sM) := (if v5 = (63 : Int32) then (if v3 = 0 then none else f_X11_goText_J95 K_37 v1 v2 v3 v4 v5 ((v1 / v3) - (v1 / v3) / (8 : Int32) * (8 : Int32)) u_th) else f_X11_goText_J95 K_37 v1 v2 v3 v4 v5 (v5 - (65 : Int32)) u_th)
def f_X11_goText_J316 (K_37 : Int32 → Int32 → Int32 → Int32 → sM → Option (Int32 × sM)) (v1 : Int32) (v2 : Int32) (v3 : Int32) (v4 : Int32) (s1 : Int32) (s2 : Int32) (u_th : sM) : Option (Int32 × sM) := f_X11_goText_J447 K_37 v1 v2 v3 v4 ((M_weight u_th), (M_sits u_th), (M_stones u_th), (M_at u_th), (M_drag u_th), (M_sights u_th), (M_sight u_th), (M_signs u_th), (M_pad u_th), ((s1 + s2) - (s1 + s2) / (8 : Int32) * (8 : Int32)), (M_turned u_th), (M_bothWays u_th), (M_now u_th), (M_heap u_th), (M_reason u_th), (M_image u_th), (M_isKept u_th))
def f_X11_goText_J298 (K_37 : Int32 → Int32 → Int32 → Int32 → sM → Option (Int32 × sM)) (v1 : Int32) (v2 : Int32) (v3 : Int32) (v4 : Int32) (v5 : Int32) (u_th : sM) : Option (Int32 × sM) := (if v5 = (62 : Int32) then f_X11_goText_J316 K_37 v1 v2 v3 v4 (M_foot u_th) (1 : Int32) u_th else f_X11_goText_J316 K_37 v1 v2 v3 v4 (M_foot u_th) (7 : Int32) u_th)
def f_X11_goText_J445 (K_37 : Int32 → Int32 → Int32 → Int32 → sM → Option (Int32 × sM)) (v1 : Int32) (v2 : Int32) (v3 : Int32) (v4 : Int32) (s1 : Int32) (s2 : Int32) (s3 : Int32) (u_th : sM) : Option (Int32 × sM) := (if s1 < 0 ∨ 8 ≤ s1.toNatClampNeg then none else f_X11_goText_J447 K_37 v1 v2 v3 v4 ((M_weight u_th), (M_sits u_th), (M_stones u_th), (M_at u_th), (M_drag u_th), (M_sights u_th), (M_sight u_th), (M_signs u_th), (M_pad u_th), (M_foot u_th), (M_turned u_th), (M_bothWays u_th), (M_now u_th), (upd (M_heap u_th) s1.toNatClampNeg (s2 + s3)), (M_reason u_th), (M_image u_th), (M_isKept u_th)))
def f_X11_goText_J410 (K_37 : Int32 → Int32 → Int32 → Int32 → sM → Option (Int32 × sM)) (v1 : Int32) (v2 : Int32) (v3 : Int32) (v4 : Int32) (v5 : Int32) (s1 : Int32) (u_th : sM) : Option (Int32 × sM) := (if (M_foot u_th) < 0 ∨ 8 ≤ (M_foot u_th).toNatClampNeg then none else (if s1 = 0 then (if v4 = v2 then f_X11_goText_J445 K_37 v1 v2 v3 v4 (M_foot u_th) ((M_heap u_th) (M_foot u_th).toNatClampNeg) (0 : Int32) ((M_weight u_th), (M_sits u_th), (M_stones u_th), (M_at u_th), (M_drag u_th), (M_sights u_th), (M_sight u_th), (M_signs u_th), (M_pad u_th), (M_foot u_th), (M_turned u_th), (M_bothWays u_th), (M_now u_th), (M_heap u_th), s1, (M_image u_th), (M_isKept u_th)) else f_X11_goText_J445 K_37 v1 v2 v3 v4 (M_foot u_th) ((M_heap u_th) (M_foot u_th).toNatClampNeg) (v5 - (48 : Int32)) ((M_weight u_th), (M_sits u_th), (M_stones u_th), (M_at u_th), (M_drag u_th), (M_sights u_th), (M_sight u_th), (M_signs u_th), (M_pad u_th), (M_foot u_th), (M_turned u_th), (M_bothWays u_th), (M_now u_th), (M_heap u_th), s1, (M_image u_th), (M_isKept u_th))) else f_X11_goText_J445 K_37 v1 v2 v3 v4 (M_foot u_th) ((M_heap u_th) (M_foot u_th).toNatClampNeg) (0 : Int32) ((M_weight u_th), (M_sits u_th), (M_stones u_th), (M_at u_th), (M_drag u_th), (M_sights u_th), (M_sight u_th), (M_signs u_th), (M_pad u_th), (M_foot u_th), (M_turned u_th), (M_bothWays u_th), (M_now u_th), (M_heap u_th), s1, (M_image u_th), (M_isKept u_th))))
def f_X11_goText_J374 (K_37 : Int32 → Int32 → Int32 → Int32 → sM → Option (Int32 × sM)) (v1 : Int32) (v2 : Int32) (v3 : Int32) (v4 : Int32) (s1 : Int32) (s2 : Int32) (u_th : sM) : Option (Int32 × sM) := (if s1 < 0 ∨ 8 ≤ s1.toNatClampNeg then none else f_X11_goText_J447 K_37 v1 v2 v3 v4 ((M_weight u_th), (M_sits u_th), (M_stones u_th), (M_at u_th), (M_drag u_th), (M_sights u_th), (M_sight u_th), (M_signs u_th), (M_pad u_th), (M_foot u_th), (M_turned u_th), (M_bothWays u_th), (M_now u_th), (upd (M_heap u_th) s1.toNatClampNeg s2), (M_reason u_th), (M_image u_th), (M_isKept u_th)))
def f_X11_goText_J280 (K_37 : Int32 → Int32 → Int32 → Int32 → sM → Option (Int32 × sM)) (v1 : Int32) (v2 : Int32) (v3 : Int32) (v4 : Int32) (s1 : Int32) (s2 : Int32) (u_th : sM) : Option (Int32 × sM) := (if s1 < 0 ∨ 8 ≤ s1.toNatClampNeg then none else f_X11_goText_J447 K_37 v1 v2 v3 v4 ((M_weight u_th), (M_sits u_th), (M_stones u_th), (M_at u_th), (M_drag u_th), (M_sights u_th), (M_sight u_th), (M_signs u_th), (M_pad u_th), (M_foot u_th), (M_turned u_th), (M_bothWays u_th), (upd (M_now u_th) s1.toNatClampNeg s2), (M_heap u_th), (M_reason u_th), (M_image u_th), (M_isKept u_th)))
def f_X11_goText_J271 (K_37 : Int32 → Int32 → Int32 → Int32 → sM → Option (Int32 × sM)) (v1 : Int32) (v2 : Int32) (v3 : Int32) (v4 : Int32) (s1 : Int32) (u_th : sM) : Option (Int32 × sM) := (if (M_foot u_th) < 0 ∨ 8 ≤ (M_foot u_th).toNatClampNeg then none else f_X11_goText_J280 K_37 v1 v2 v3 v4 s1 ((M_now u_th) (M_foot u_th).toNatClampNeg) u_th)
def f_X11_goText_J242 (K_37 : Int32 → Int32 → Int32 → Int32 → sM → Option (Int32 × sM)) (v1 : Int32) (v2 : Int32) (v3 : Int32) (v4 : Int32) (s1 : Int32) (u_th : sM) : Option (Int32 × sM) := (if s1 = 0 then (if v4 = v2 then f_X11_goText_J271 K_37 v1 v2 v3 v4 (M_foot u_th) ((M_weight u_th), (M_sits u_th), (M_stones u_th), (M_at u_th), (M_drag u_th), (M_sights u_th), (M_sight u_th), (M_signs u_th), (M_pad u_th), (M_foot u_th), (M_turned u_th), (M_bothWays u_th), (M_now u_th), (M_heap u_th), s1, (M_image u_th), (M_isKept u_th)) else f_X11_goText_J280 K_37 v1 v2 v3 v4 (M_foot u_th) (-6 : Int32) ((M_weight u_th), (M_sits u_th), (M_stones u_th), (M_at u_th), (M_drag u_th), (M_sights u_th), (M_sight u_th), (M_signs u_th), (M_pad u_th), (M_foot u_th), (M_turned u_th), (M_bothWays u_th), (M_now u_th), (M_heap u_th), s1, (M_image u_th), (M_isKept u_th))) else f_X11_goText_J271 K_37 v1 v2 v3 v4 (M_foot u_th) ((M_weight u_th), (M_sits u_th), (M_stones u_th), (M_at u_th), (M_drag u_th), (M_sights u_th), (M_sight u_th), (M_signs u_th), (M_pad u_th), (M_foot u_th), (M_turned u_th), (M_bothWays u_th), (M_now u_th), (M_heap u_th), s1, (M_image u_th), (M_isKept u_th)))
def f_X11_goText_L37 : Nat → Int32 → Int32 → Int32 → Int32 → sM → Option (Int32 × sM)
  | 0, _, _, _, _, _ => none
  | n + 1, v1, v2, v3, v4, u_th => (if (M_signs u_th) ≤ v4 then some ((-6 : Int32), u_th) else (if v4 < 0 ∨ 60 ≤ v4.toNatClampNeg then none else (if ((M_pad u_th) v4.toNatClampNeg) = (63 : Int32) then f_X11_goText_J74 (f_X11_goText_L37 n) v1 v2 v3 v4 ((M_pad u_th) v4.toNatClampNeg) u_th else (f_X11_in ((M_pad u_th) v4.toNatClampNeg) (65 : Int32) (72 : Int32)).bind fun z21 => (if z21.1 = 0 then (f_X11_in ((M_pad u_th) v4.toNatClampNeg) (97 : Int32) (104 : Int32)).bind fun z23 => (if z23.1 = 0 then (if ((M_pad u_th) v4.toNatClampNeg) = (60 : Int32) then f_X11_goText_J298 (f_X11_goText_L37 n) v1 v2 v3 v4 ((M_pad u_th) v4.toNatClampNeg) u_th else (if ((M_pad u_th) v4.toNatClampNeg) = (62 : Int32) then f_X11_goText_J298 (f_X11_goText_L37 n) v1 v2 v3 v4 ((M_pad u_th) v4.toNatClampNeg) u_th else (if ((M_pad u_th) v4.toNatClampNeg) = (94 : Int32) then (f_X11_letGo u_th).bind fun z40 => f_X11_goText_J447 (f_X11_goText_L37 n) v1 v2 v3 v4 z40 else (if ((M_pad u_th) v4.toNatClampNeg) = (48 : Int32) then (if v4 = v2 then (if (M_foot u_th) < 0 ∨ 8 ≤ (M_foot u_th).toNatClampNeg then none else f_X11_goText_J374 (f_X11_goText_L37 n) v1 v2 v3 v4 (M_foot u_th) ((M_heap u_th) (M_foot u_th).toNatClampNeg) u_th) else f_X11_goText_J374 (f_X11_goText_L37 n) v1 v2 v3 v4 (M_foot u_th) (0 : Int32) u_th) else (if v4 = v2 then f_X11_goText_J410 (f_X11_goText_L37 n) v1 v2 v3 v4 ((M_pad u_th) v4.toNatClampNeg) (0 : Int32) u_th else (if (M_foot u_th) < 0 ∨ 8 ≤ (M_foot u_th).toNatClampNeg then none else (if ((((M_heap u_th) (M_foot u_th).toNatClampNeg) + ((M_pad u_th) v4.toNatClampNeg)) - (48 : Int32)) ≤ (99 : Int32) then f_X11_goText_J410 (f_X11_goText_L37 n) v1 v2 v3 v4 ((M_pad u_th) v4.toNatClampNeg) (0 : Int32) u_th else f_X11_goText_J410 (f_X11_goText_L37 n) v1 v2 v3 v4 ((M_pad u_th) v4.toNatClampNeg) (4 : Int32) u_th))))))) else (if v4 = v2 then f_X11_goText_J242 (f_X11_goText_L37 n) v1 v2 v3 v4 (0 : Int32) u_th else (if (M_foot u_th) < 0 ∨ 8 ≤ (M_foot u_th).toNatClampNeg then none else (if ((M_now u_th) (M_foot u_th).toNatClampNeg) = (((M_pad u_th) v4.toNatClampNeg) - (97 : Int32)) then f_X11_goText_J242 (f_X11_goText_L37 n) v1 v2 v3 v4 (0 : Int32) u_th else f_X11_goText_J242 (f_X11_goText_L37 n) v1 v2 v3 v4 (3 : Int32) u_th)))) else f_X11_goText_J74 (f_X11_goText_L37 n) v1 v2 v3 v4 ((M_pad u_th) v4.toNatClampNeg) u_th))))
def f_X11_goText_L14 : Nat → Int32 → Int32 → Int32 → Int32 → sM → Option (Int32 × sM)
  | 0, _, _, _, _, _ => none
  | n + 1, v1, v2, v3, v4, u_th => (f_X11_opens u_th).bind fun z2 => (if z2.1 ≤ v4 then f_X11_goText_L37 oF v1 v2 v3 (0 : Int32) u_th else (f_X11_goText_L14 n) v1 v2 (v3 * (8 : Int32)) (v4 + (1 : Int32)) u_th)
def f_X11_goText (u_th : sM) (p1 : Int32) (p2 : Int32) : Option (Int32 × sM) := (f_X11_asNow u_th).bind fun z1 => f_X11_goText_L14 oF p1 p2 (1 : Int32) (1 : Int32) ((M_weight z1), (M_sits z1), (M_stones z1), (M_at z1), (M_drag z1), (M_sights z1), (M_sight z1), (M_signs z1), (M_pad z1), (M_foot z1), (M_turned z1), (M_bothWays z1), (M_now z1), (M_heap z1), (0 : Int32), (M_image z1), (M_isKept z1))
abbrev rmX11_goText : Room := { frames := 3, cells := 0, slots := 0, locals := 80 }
def f_X11_judge (u_th : sM) (p1 : Int32) : Option (Int32 × sM) := (f_X11_in p1 (0 : Int32) (1 : Int32)).bind fun z1 => (if z1.1 = 0 then some ((-2 : Int32), u_th) else (f_X11_faultOf u_th).bind fun z3 => (if z3.1 < 0 then (f_X11_opens u_th).bind fun z5 => (if z5.1 ≤ 0 then (f_X11_goText u_th (0 : Int32) (-6 : Int32)).bind fun z7 => (if z7.1 < 0 then some (z7.1, z7.2) else (if p1 = 0 then some (z7.1, z7.2) else some ((M_reason z7.2), z7.2))) else some ((-3 : Int32), u_th)) else some ((-5 : Int32), u_th)))
abbrev rmX11_judge : Room := { frames := 4, cells := 0, slots := 0, locals := 110 }
def f_X11_barOfText (u_th : sM) : Option (Int32 × sM) := (f_X11_faultOf u_th).bind fun z1 => (if z1.1 < 0 then (f_X11_opens u_th).bind fun z3 => (if z3.1 ≤ 0 then (f_X11_goText u_th (0 : Int32) (-6 : Int32)).bind fun z5 => (if z5.1 < 0 then some ((0 : Int32), z5.2) else some ((-5 : Int32), z5.2)) else some ((-3 : Int32), u_th)) else some ((-5 : Int32), u_th))
abbrev rmX11_barOfText : Room := { frames := 4, cells := 0, slots := 0, locals := 110 }
def f_X11_done_L21 : Nat → Int32 → sM → Option (Int32 × sM)
  | 0, _, _ => none
  | n + 1, v2, u_th => (if (8 : Int32) ≤ v2 then some ((M_signs u_th), ((M_weight u_th), (M_sits u_th), (M_stones u_th), (M_at u_th), (M_drag u_th), (M_sights u_th), (M_sight u_th), (0 : Int32), (M_pad u_th), (M_foot u_th), (M_turned u_th), (M_bothWays u_th), (M_now u_th), (M_heap u_th), (M_reason u_th), (M_image u_th), (M_isKept u_th))) else (if v2 < 0 ∨ 8 ≤ v2.toNatClampNeg then none else (if v2 < 0 ∨ 8 ≤ v2.toNatClampNeg then none else (if v2 < 0 ∨ 8 ≤ v2.toNatClampNeg then none else (if v2 < 0 ∨ 8 ≤ v2.toNatClampNeg then none else (f_X11_done_L21 n) (v2 + (1 : Int32)) ((M_weight u_th), (upd (M_sits u_th) v2.toNatClampNeg ((M_now u_th) v2.toNatClampNeg)), (upd (M_stones u_th) v2.toNatClampNeg ((M_heap u_th) v2.toNatClampNeg)), (M_at u_th), (M_drag u_th), (M_sights u_th), (M_sight u_th), (M_signs u_th), (M_pad u_th), (M_foot u_th), (M_turned u_th), (M_bothWays u_th), (M_now u_th), (M_heap u_th), (M_reason u_th), (M_image u_th), (M_isKept u_th)))))))
def f_X11_done (u_th : sM) : Option (Int32 × sM) := (f_X11_barOfText u_th).bind fun z1 => (if 0 ≤ z1.1 then f_X11_done_L21 oF (0 : Int32) ((M_weight z1.2), (M_sits z1.2), (M_stones z1.2), (M_foot z1.2), (M_drag z1.2), (M_sights z1.2), (M_sight z1.2), (M_signs z1.2), (M_pad z1.2), (M_foot z1.2), (M_turned z1.2), (M_bothWays z1.2), (M_now z1.2), (M_heap z1.2), (M_reason z1.2), (M_image z1.2), (M_isKept z1.2)) else some (z1.1, z1.2))
abbrev rmX11_done : Room := { frames := 5, cells := 0, slots := 0, locals := 134 }
def f_X11_foot (u_th : sM) : Option (Int32 × Unit) := some ((M_at u_th), ())
abbrev rmX11_foot : Room := { frames := 0, cells := 0, slots := 0, locals := 0 }
def f_X11_car (u_th : sM) (p1 : Int32) (p2 : Int32) : Option (Int32 × Unit) := (f_X11_is8 p1).bind fun z1 => (if z1.1 = 0 then some ((-1 : Int32), ()) else (if p2 = 0 then (if p1 < 0 ∨ 8 ≤ p1.toNatClampNeg then none else some (((M_sits u_th) p1.toNatClampNeg), ())) else (if p2 = 1 then (if p1 < 0 ∨ 8 ≤ p1.toNatClampNeg then none else some (((M_stones u_th) p1.toNatClampNeg), ())) else (if p2 = (2 : Int32) then some ((((p1 - (M_at u_th)) + (8 : Int32)) - ((p1 - (M_at u_th)) + (8 : Int32)) / (8 : Int32) * (8 : Int32)), ()) else some ((-2 : Int32), ())))))
abbrev rmX11_car : Room := { frames := 2, cells := 0, slots := 0, locals := 50 }
def f_X11_pull (u_th : sM) : Option (Int32 × sM) := (f_X11_asNow u_th).bind fun z1 => (f_X11_pullAt z1 (M_foot z1)).bind fun z2 => some ((z2.1 + (1000000 : Int32)), z1)
abbrev rmX11_pull : Room := { frames := 2, cells := 0, slots := 0, locals := 54 }
def f_X11_behind (u_th : sM) (p1 : Int32) : Option (Int32 × sM) := (f_X11_in p1 (0 : Int32) (2 : Int32)).bind fun z1 => (if z1.1 = 0 then some ((-2 : Int32), u_th) else (f_X11_barOfText u_th).bind fun z3 => (if 0 ≤ z3.1 then (if p1 = 0 then some ((M_foot z3.2), z3.2) else (if p1 = (1 : Int32) then (f_X11_pullAt z3.2 (M_foot z3.2)).bind fun z7 => some ((z7.1 + (1000000 : Int32)), z3.2) else some (((M_turned z3.2) + (1000 : Int32)), z3.2))) else some (z3.1, z3.2)))
abbrev rmX11_behind : Room := { frames := 5, cells := 0, slots := 0, locals := 134 }
def f_X11_leftOut_J72 (K_22 : Int32 → Int32 → Int32 → Int32 → sM → Option (Int32 × sM)) (v1 : Int32) (v3 : Int32) (v4 : Int32) (v5 : Int32) (s0 : Int32) (u_th : sM) : Option (Int32 × sM) := (if s0 = 0 then (f_X11_goText u_th (0 : Int32) v5).bind fun z8 => (if 0 ≤ z8.1 then K_22 v1 v3 v4 (v5 + (1 : Int32)) z8.2 else (if (M_foot z8.2) = v3 then (if v4 = v1 then some (v5, z8.2) else K_22 v1 v3 (v4 + (1 : Int32)) (v5 + (1 : Int32)) z8.2) else K_22 v1 v3 v4 (v5 + (1 : Int32)) z8.2)) else K_22 v1 v3 v4 (v5 + (1 : Int32)) u_th)
def f_X11_leftOut_L22 : Nat → Int32 → Int32 → Int32 → Int32 → sM → Option (Int32 × sM)
  | 0, _, _, _, _, _ => none
  | n + 1, v1, v3, v4, v5, u_th => (if (M_signs u_th) ≤ v5 then (if v1 = (-1 : Int32) then some (v4, u_th) else some ((-6 : Int32), u_th)) else (if v5 < 0 ∨ 60 ≤ v5.toNatClampNeg then none else (if ((M_pad u_th) v5.toNatClampNeg) = (94 : Int32) then f_X11_leftOut_J72 (f_X11_leftOut_L22 n) v1 v3 v4 v5 (1 : Int32) u_th else (if v5 < 0 ∨ 60 ≤ v5.toNatClampNeg then none else (if ((M_pad u_th) v5.toNatClampNeg) = (60 : Int32) then f_X11_leftOut_J72 (f_X11_leftOut_L22 n) v1 v3 v4 v5 (1 : Int32) u_th else (if v5 < 0 ∨ 60 ≤ v5.toNatClampNeg then none else (if ((M_pad u_th) v5.toNatClampNeg) = (62 : Int32) then f_X11_leftOut_J72 (f_X11_leftOut_L22 n) v1 v3 v4 v5 (1 : Int32) u_th else f_X11_leftOut_J72 (f_X11_leftOut_L22 n) v1 v3 v4 v5 (0 : Int32) u_th)))))))
def f_X11_leftOut (u_th : sM) (p1 : Int32) : Option (Int32 × sM) := (f_X11_barOfText u_th).bind fun z1 => (if 0 ≤ z1.1 then f_X11_leftOut_L22 oF p1 (M_foot z1.2) (0 : Int32) (0 : Int32) z1.2 else some (z1.1, z1.2))
abbrev rmX11_leftOut : Room := { frames := 5, cells := 0, slots := 0, locals := 134 }
def f_X11_move_J100 (u_th : sM) : Option (Int32 × sM) := (f_X11_letGo u_th).bind fun z7 => some ((1 : Int32), z7)
def f_X11_move_J61 (v2 : Int32) (s1 : Int32) (s2 : Int32) (u_th : sM) : Option (Int32 × sM) := (if s1 < 0 ∨ 8 ≤ s1.toNatClampNeg then none else (if (8 : Int32) ≤ v2 then f_X11_move_J100 ((M_weight u_th), (M_sits u_th), (M_stones u_th), (M_at u_th), (M_drag u_th), (M_sights u_th), (M_sight u_th), (M_signs u_th), (M_pad u_th), (M_foot u_th), (M_turned u_th), (M_bothWays u_th), (upd (M_now u_th) s1.toNatClampNeg s2), (M_heap u_th), (M_reason u_th), (M_image u_th), (M_isKept u_th)) else (if (M_foot u_th) < 0 ∨ 8 ≤ (M_foot u_th).toNatClampNeg then none else (if 0 ≤ ((upd (M_now u_th) s1.toNatClampNeg s2) (M_foot u_th).toNatClampNeg) then some ((0 : Int32), ((M_weight u_th), (M_sits u_th), (M_stones u_th), (M_at u_th), (M_drag u_th), (M_sights u_th), (M_sight u_th), (M_signs u_th), (M_pad u_th), (M_foot u_th), (M_turned u_th), (M_bothWays u_th), (upd (M_now u_th) s1.toNatClampNeg s2), (M_heap u_th), (M_reason u_th), (M_image u_th), (M_isKept u_th))) else (f_X11_carOf ((M_weight u_th), (M_sits u_th), (M_stones u_th), (M_at u_th), (M_drag u_th), (M_sights u_th), (M_sight u_th), (M_signs u_th), (M_pad u_th), (M_foot u_th), (M_turned u_th), (M_bothWays u_th), (upd (M_now u_th) s1.toNatClampNeg s2), (M_heap u_th), (M_reason u_th), (M_image u_th), (M_isKept u_th)) v2).bind fun z10 => (if z10.1 < 0 then (if (M_foot u_th) < 0 ∨ 8 ≤ (M_foot u_th).toNatClampNeg then none else f_X11_move_J100 ((M_weight u_th), (M_sits u_th), (M_stones u_th), (M_at u_th), (M_drag u_th), (M_sights u_th), (M_sight u_th), (M_signs u_th), (M_pad u_th), (M_foot u_th), (M_turned u_th), (M_bothWays u_th), (upd (upd (M_now u_th) s1.toNatClampNeg s2) (M_foot u_th).toNatClampNeg v2), (M_heap u_th), (M_reason u_th), (M_image u_th), (M_isKept u_th))) else some ((0 : Int32), ((M_weight u_th), (M_sits u_th), (M_stones u_th), (M_at u_th), (M_drag u_th), (M_sights u_th), (M_sight u_th), (M_signs u_th), (M_pad u_th), (M_foot u_th), (M_turned u_th), (M_bothWays u_th), (upd (M_now u_th) s1.toNatClampNeg s2), (M_heap u_th), (M_reason u_th), (M_image u_th), (M_isKept u_th))))))))
def f_X11_move_J35 (v2 : Int32) (v3 : Int32) (u_th : sM) : Option (Int32 × sM) := (if v3 = 0 then (if (M_foot u_th) < 0 ∨ 8 ≤ (M_foot u_th).toNatClampNeg then none else f_X11_move_J61 v2 (M_foot u_th) ((M_now u_th) (M_foot u_th).toNatClampNeg) u_th) else f_X11_move_J61 v2 (M_foot u_th) (-6 : Int32) u_th)
def f_X11_move_J16 (v2 : Int32) (s0 : Int32) (u_th : sM) : Option (Int32 × sM) := (if s0 = 0 then f_X11_move_J35 v2 s0 u_th else (if (M_foot u_th) < 0 ∨ 8 ≤ (M_foot u_th).toNatClampNeg then none else (if 0 ≤ ((M_now u_th) (M_foot u_th).toNatClampNeg) then f_X11_move_J35 v2 s0 u_th else some ((0 : Int32), u_th))))
def f_X11_move (u_th : sM) (p1 : Int32) : Option (Int32 × sM) := (if (p1 - p1 / (2 : Int32) * (2 : Int32)) = (1 : Int32) then f_X11_move_J16 (p1 / (2 : Int32)) (1 : Int32) u_th else f_X11_move_J16 (p1 / (2 : Int32)) (0 : Int32) u_th)
abbrev rmX11_move : Room := { frames := 3, cells := 0, slots := 0, locals := 80 }
def f_X11_powerOf_L4 : Nat → Int32 → Int32 → Int32 → Int32 → Option (Int32 × Unit)
  | 0, _, _, _, _ => none
  | n + 1, v0, v1, v2, v3 => (if v1 ≤ v3 then some (v2, ()) else (f_X11_powerOf_L4 n) v0 v1 (v2 * v0) (v3 + (1 : Int32)))
def f_X11_powerOf (p0 : Int32) (p1 : Int32) : Option (Int32 × Unit) := f_X11_powerOf_L4 oF p0 p1 (1 : Int32) (0 : Int32)
abbrev rmX11_powerOf : Room := { frames := 0, cells := 0, slots := 0, locals := 0 }
def f_X11_down_J136 (K_61 : Int32 → Int32 → Int32 → sM → Option (Int32 × sM)) (K_77 : Int32 → Int32 → Int32 → Int32 → Int32 → sM → Option (Int32 × sM)) (v1 : Int32) (v2 : Int32) (v3 : Int32) (v4 : Int32) (v5 : Int32) (v7 : Int32) (u_th : sM) : Option (Int32 × sM) := (if v7 = 0 then K_77 v1 v2 v3 v4 (v5 + (1 : Int32)) u_th else (f_X11_carOf u_th v1).bind fun z16 => (if z16.1 = (M_foot u_th) then (f_X11_powerOf (18 : Int32) (v3 - (1 : Int32))).bind fun z18 => (if z18.1 = 0 then none else (if v2 = 0 then some (v3, u_th) else (if v2 = (1 : Int32) then some (((v5 / z18.1) - (v5 / z18.1) / (2 : Int32) * (2 : Int32)), u_th) else (if ((v5 / z18.1) / (2 : Int32)) = (8 : Int32) then some ((-6 : Int32), u_th) else some (((v5 / z18.1) / (2 : Int32)), u_th))))) else K_77 v1 v2 v3 v4 (v5 + (1 : Int32)) u_th))
def f_X11_down_L98 (K_61 : Int32 → Int32 → Int32 → sM → Option (Int32 × sM)) (K_77 : Int32 → Int32 → Int32 → Int32 → Int32 → sM → Option (Int32 × sM)) : Nat → Int32 → Int32 → Int32 → Int32 → Int32 → Int32 → Int32 → Int32 → sM → Option (Int32 × sM)
  | 0, _, _, _, _, _, _, _, _, _ => none
  | n + 1, v1, v2, v3, v4, v5, v6, v7, v8, u_th => (if v3 ≤ v8 then f_X11_down_J136 K_61 K_77 v1 v2 v3 v4 v5 v7 u_th else (if v7 = 0 then f_X11_down_J136 K_61 K_77 v1 v2 v3 v4 v5 v7 u_th else (if (v6 / (18 : Int32)) = 0 then none else (f_X11_move u_th ((v5 / (v6 / (18 : Int32))) - (v5 / (v6 / (18 : Int32))) / (18 : Int32) * (18 : Int32))).bind fun z25 => (f_X11_down_L98 K_61 K_77 n) v1 v2 v3 v4 v5 (v6 / (18 : Int32)) z25.1 (v8 + (1 : Int32)) z25.2)))
def f_X11_down_L77 (K_61 : Int32 → Int32 → Int32 → sM → Option (Int32 × sM)) : Nat → Int32 → Int32 → Int32 → Int32 → Int32 → sM → Option (Int32 × sM)
  | 0, _, _, _, _, _, _ => none
  | n + 1, v1, v2, v3, v4, v5, u_th => (if v4 ≤ v5 then K_61 v1 v2 (v3 + (1 : Int32)) u_th else (f_X11_asNow u_th).bind fun z13 => f_X11_down_L98 K_61 (f_X11_down_L77 K_61 n) oF v1 v2 v3 v4 v5 v4 (1 : Int32) (0 : Int32) z13)
def f_X11_down_L61 : Nat → Int32 → Int32 → Int32 → sM → Option (Int32 × sM)
  | 0, _, _, _, _ => none
  | n + 1, v1, v2, v3, u_th => (if (4 : Int32) ≤ v3 then some ((-6 : Int32), u_th) else (f_X11_powerOf (18 : Int32) v3).bind fun z11 => f_X11_down_L77 (f_X11_down_L61 n) oF v1 v2 v3 z11.1 (0 : Int32) u_th)
def f_X11_down (u_th : sM) (p1 : Int32) (p2 : Int32) : Option (Int32 × sM) := (f_X11_is8 p1).bind fun z1 => (if z1.1 = 0 then some ((-1 : Int32), u_th) else (f_X11_in p2 (0 : Int32) (2 : Int32)).bind fun z3 => (if z3.1 = 0 then some ((-2 : Int32), u_th) else (f_X11_asNow u_th).bind fun z5 => (f_X11_carOf z5 p1).bind fun z6 => (if 0 ≤ z6.1 then (f_X11_carOf z5 p1).bind fun z8 => (if z8.1 = (M_foot z5) then (if p2 = 0 then some ((0 : Int32), z5) else some ((-6 : Int32), z5)) else f_X11_down_L61 oF p1 p2 (1 : Int32) z5) else some ((-3 : Int32), z5))))
abbrev rmX11_down : Room := { frames := 4, cells := 0, slots := 0, locals := 107 }
def f_X11_pebbles_L26 : Nat → Int32 → Int32 → sM → Option (Int32 × sM)
  | 0, _, _, _ => none
  | n + 1, v1, v2, u_th => (if (100 : Int32) ≤ v2 then some ((-6 : Int32), u_th) else (f_X11_asNow u_th).bind fun z7 => (if (M_foot z7) < 0 ∨ 8 ≤ (M_foot z7).toNatClampNeg then none else (f_X11_letGo ((M_weight z7), (M_sits z7), (M_stones z7), (M_at z7), (M_drag z7), (M_sights z7), (M_sight z7), (M_signs z7), (M_pad z7), (M_foot z7), (M_turned z7), (M_bothWays z7), (M_now z7), (upd (M_heap z7) (M_foot z7).toNatClampNeg v2), (M_reason z7), (M_image z7), (M_isKept z7))).bind fun z9 => (f_X11_carOf z9 v1).bind fun z10 => (if z10.1 = (M_foot z9) then some (v2, z9) else (f_X11_pebbles_L26 n) v1 (v2 + (1 : Int32)) z9)))
def f_X11_pebbles (u_th : sM) (p1 : Int32) : Option (Int32 × sM) := (f_X11_is8 p1).bind fun z1 => (if z1.1 = 0 then some ((-1 : Int32), u_th) else (f_X11_asNow u_th).bind fun z3 => (f_X11_carOf z3 p1).bind fun z4 => (if 0 ≤ z4.1 then f_X11_pebbles_L26 oF p1 (0 : Int32) z3 else some ((-3 : Int32), z3)))
abbrev rmX11_pebbles : Room := { frames := 3, cells := 0, slots := 0, locals := 80 }
def f_X11_greatestPull_J26 (u_th : sM) (K_4 : Int32 → Int32 → Option (Int32 × Unit)) (v1 : Int32) (v2 : Int32) (s0 : Int32) : Option (Int32 × Unit) := (if s0 ≤ v1 then K_4 v1 (v2 + (1 : Int32)) else K_4 s0 (v2 + (1 : Int32)))
def f_X11_greatestPull_L4 (u_th : sM) : Nat → Int32 → Int32 → Option (Int32 × Unit)
  | 0, _, _ => none
  | n + 1, v1, v2 => (if (8 : Int32) ≤ v2 then some (v1, ()) else (f_X11_pullAt u_th v2).bind fun z2 => (if 0 ≤ z2.1 then f_X11_greatestPull_J26 u_th (f_X11_greatestPull_L4 u_th n) v1 v2 z2.1 else f_X11_greatestPull_J26 u_th (f_X11_greatestPull_L4 u_th n) v1 v2 (-z2.1)))
def f_X11_greatestPull (u_th : sM) : Option (Int32 × Unit) := f_X11_greatestPull_L4 u_th oF (0 : Int32) (0 : Int32)
abbrev rmX11_greatestPull : Room := { frames := 2, cells := 0, slots := 0, locals := 54 }
def f_X11_brake (u_th : sM) : Option (Int32 × sM) := (f_X11_asNow u_th).bind fun z1 => (f_X11_greatestPull z1).bind fun z2 => some (z2.1, z1)
abbrev rmX11_brake : Room := { frames := 3, cells := 0, slots := 0, locals := 81 }
def f_X11_isSeated_J99 (K_47 : Int32 → Int32 → Int32 → Int32 → Int32 → sM → Option (Int32 × sM)) (v1 : Int32) (v3 : Int32) (v4 : Int32) (v6 : Int32) (v7 : Int32) (s0 : Int32) (u_th : sM) : Option (Int32 × sM) := (if v7 < 0 ∨ 8 ≤ v7.toNatClampNeg then none else K_47 v1 v3 v4 s0 (v6 + (1 : Int32)) ((M_weight u_th), (M_sits u_th), (M_stones u_th), (M_at u_th), (M_drag u_th), (M_sights u_th), (M_sight u_th), (M_signs u_th), (M_pad u_th), (M_foot u_th), (M_turned u_th), (M_bothWays u_th), (upd (M_now u_th) v7.toNatClampNeg v6), (M_heap u_th), (M_reason u_th), (M_image u_th), (M_isKept u_th)))
def f_X11_isSeated_L47 : Nat → Int32 → Int32 → Int32 → Int32 → Int32 → sM → Option (Int32 × sM)
  | 0, _, _, _, _, _, _ => none
  | n + 1, v1, v3, v4, v5, v6, u_th => (if (8 : Int32) ≤ v6 then (if v5 = 0 ∨ v5 = 1 then some (v5, u_th) else none) else (if v5 = 0 then (if v5 = 0 ∨ v5 = 1 then some (v5, u_th) else none) else (f_X11_has v1 v6).bind fun z7 => (if z7.1 = 0 then (f_X11_isSeated_L47 n) v1 v3 v4 v5 (v6 + (1 : Int32)) u_th else (if (v4 / (8 : Int32)) = 0 then none else (if ((v3 / (v4 / (8 : Int32))) - (v3 / (v4 / (8 : Int32))) / (8 : Int32) * (8 : Int32)) < 0 ∨ 8 ≤ ((v3 / (v4 / (8 : Int32))) - (v3 / (v4 / (8 : Int32))) / (8 : Int32) * (8 : Int32)).toNatClampNeg then none else (if 0 ≤ ((M_now u_th) ((v3 / (v4 / (8 : Int32))) - (v3 / (v4 / (8 : Int32))) / (8 : Int32) * (8 : Int32)).toNatClampNeg) then f_X11_isSeated_J99 (f_X11_isSeated_L47 n) v1 v3 (v4 / (8 : Int32)) v6 ((v3 / (v4 / (8 : Int32))) - (v3 / (v4 / (8 : Int32))) / (8 : Int32) * (8 : Int32)) (0 : Int32) u_th else f_X11_isSeated_J99 (f_X11_isSeated_L47 n) v1 v3 (v4 / (8 : Int32)) v6 ((v3 / (v4 / (8 : Int32))) - (v3 / (v4 / (8 : Int32))) / (8 : Int32) * (8 : Int32)) (1 : Int32) u_th))))))
def f_X11_isSeated_L3 : Nat → Int32 → Int32 → Int32 → Int32 → sM → Option (Int32 × sM)
  | 0, _, _, _, _, _ => none
  | n + 1, v1, v2, v3, v4, u_th => (if (8 : Int32) ≤ v4 then (f_X11_powerOf (8 : Int32) v2).bind fun z2 => f_X11_isSeated_L47 oF v1 v3 z2.1 (1 : Int32) (0 : Int32) u_th else (if v4 < 0 ∨ 8 ≤ v4.toNatClampNeg then none else (if v4 < 0 ∨ 8 ≤ v4.toNatClampNeg then none else (f_X11_isSeated_L3 n) v1 v2 v3 (v4 + (1 : Int32)) ((M_weight u_th), (M_sits u_th), (M_stones u_th), (M_at u_th), (M_drag u_th), (M_sights u_th), (M_sight u_th), (M_signs u_th), (M_pad u_th), (M_foot u_th), (M_turned u_th), (M_bothWays u_th), (upd (M_now u_th) v4.toNatClampNeg (-6 : Int32)), (upd (M_heap u_th) v4.toNatClampNeg (0 : Int32)), (M_reason u_th), (M_image u_th), (M_isKept u_th)))))
def f_X11_isSeated (u_th : sM) (p1 : Int32) (p2 : Int32) (p3 : Int32) : Option (Int32 × sM) := f_X11_isSeated_L3 oF p1 p2 p3 (0 : Int32) u_th
abbrev rmX11_isSeated : Room := { frames := 1, cells := 0, slots := 0, locals := 27 }
def f_X11_balance_L124 : Nat → Int32 → Int32 → Int32 → Int32 → Int32 → Int32 → Int32 → Int32 → sM → Option (Int32 × sM)
  | 0, _, _, _, _, _, _, _, _, _ => none
  | n + 1, v1, v2, v3, v4, v5, v6, v7, v8, u_th => (if v5 ≤ v8 then (if 0 ≤ v2 then (if 0 ≤ v7 then (f_X11_powerOf (8 : Int32) ((v3 - (1 : Int32)) - v4)).bind fun z10 => (if z10.1 = 0 then none else some (((v7 / z10.1) - (v7 / z10.1) / (8 : Int32) * (8 : Int32)), u_th)) else some ((-6 : Int32), u_th)) else some (v6, u_th)) else (f_X11_isSeated u_th v1 v3 v8).bind fun z12 => (if z12.1 = 0 then (f_X11_balance_L124 n) v1 v2 v3 v4 v5 v6 v7 (v8 + (1 : Int32)) z12.2 else (f_X11_greatestPull z12.2).bind fun z14 => (if (M_drag z12.2) < z14.1 then (f_X11_balance_L124 n) v1 v2 v3 v4 v5 v6 v7 (v8 + (1 : Int32)) z12.2 else (if 0 ≤ v7 then (f_X11_balance_L124 n) v1 v2 v3 v4 v5 (v6 + (1 : Int32)) v7 (v8 + (1 : Int32)) z12.2 else (f_X11_balance_L124 n) v1 v2 v3 v4 v5 (v6 + (1 : Int32)) v8 (v8 + (1 : Int32)) z12.2))))
def f_X11_balance_L55 : Nat → Int32 → Int32 → Int32 → Int32 → Int32 → sM → Option (Int32 × sM)
  | 0, _, _, _, _, _, _ => none
  | n + 1, v1, v2, v3, v4, v5, u_th => (if (8 : Int32) ≤ v5 then (if v3 ≤ (5 : Int32) then (f_X11_powerOf (8 : Int32) v3).bind fun z6 => f_X11_balance_L124 oF v1 v2 v3 v4 z6.1 (0 : Int32) (-6 : Int32) (0 : Int32) u_th else some ((-4 : Int32), u_th)) else (if v2 ≤ v5 then (f_X11_balance_L55 n) v1 v2 (v3 + ((v1 >>> (v5 &&& 31)) &&& (1 : Int32))) (v4 + (0 : Int32)) (v5 + (1 : Int32)) u_th else (f_X11_balance_L55 n) v1 v2 (v3 + ((v1 >>> (v5 &&& 31)) &&& (1 : Int32))) (v4 + ((v1 >>> (v5 &&& 31)) &&& (1 : Int32))) (v5 + (1 : Int32)) u_th))
def f_X11_balance_J33 (v1 : Int32) (v2 : Int32) (u_th : sM) : Option (Int32 × sM) := (f_X11_in v1 (0 : Int32) (255 : Int32)).bind fun z2 => (if z2.1 = 0 then some ((-2 : Int32), u_th) else f_X11_balance_L55 oF v1 v2 (0 : Int32) (0 : Int32) (0 : Int32) u_th)
def f_X11_balance (u_th : sM) (p1 : Int32) (p2 : Int32) : Option (Int32 × sM) := (if p2 = (-1 : Int32) then f_X11_balance_J33 p1 p2 u_th else (f_X11_is8 p2).bind fun z18 => (if z18.1 = 0 then some ((-1 : Int32), u_th) else (f_X11_in p1 (0 : Int32) (255 : Int32)).bind fun z20 => (if z20.1 = 0 then f_X11_balance_J33 p1 p2 u_th else (f_X11_has p1 p2).bind fun z22 => (if z22.1 = 0 then some ((-1 : Int32), u_th) else f_X11_balance_J33 p1 p2 u_th))))
abbrev rmX11_balance : Room := { frames := 3, cells := 0, slots := 0, locals := 81 }
def f_X11_could_L70 : Nat → Int32 → Int32 → Int32 → Int32 → Int32 → Int32 → Int32 → Int32 → sM → Option (Int32 × sM)
  | 0, _, _, _, _, _, _, _, _, _ => none
  | n + 1, v1, v2, v3, v4, v5, v6, v7, v8, u_th => (if (100 : Int32) ≤ v8 then (if v1 < 0 ∨ 8 ≤ v1.toNatClampNeg then none else (if v3 = 0 then some (v5, ((upd (M_weight u_th) v1.toNatClampNeg v4), (M_sits u_th), (M_stones u_th), (M_at u_th), (M_drag u_th), (M_sights u_th), (M_sight u_th), (M_signs u_th), (M_pad u_th), (M_foot u_th), (M_turned u_th), (M_bothWays u_th), (M_now u_th), (M_heap u_th), (M_reason u_th), (M_image u_th), (M_isKept u_th))) else (if v3 = (1 : Int32) then some (v6, ((upd (M_weight u_th) v1.toNatClampNeg v4), (M_sits u_th), (M_stones u_th), (M_at u_th), (M_drag u_th), (M_sights u_th), (M_sight u_th), (M_signs u_th), (M_pad u_th), (M_foot u_th), (M_turned u_th), (M_bothWays u_th), (M_now u_th), (M_heap u_th), (M_reason u_th), (M_image u_th), (M_isKept u_th))) else some (v7, ((upd (M_weight u_th) v1.toNatClampNeg v4), (M_sits u_th), (M_stones u_th), (M_at u_th), (M_drag u_th), (M_sights u_th), (M_sight u_th), (M_signs u_th), (M_pad u_th), (M_foot u_th), (M_turned u_th), (M_bothWays u_th), (M_now u_th), (M_heap u_th), (M_reason u_th), (M_image u_th), (M_isKept u_th)))))) else (if v1 < 0 ∨ 8 ≤ v1.toNatClampNeg then none else (f_X11_goText ((upd (M_weight u_th) v1.toNatClampNeg v8), (M_sits u_th), (M_stones u_th), (M_at u_th), (M_drag u_th), (M_sights u_th), (M_sight u_th), (M_signs u_th), (M_pad u_th), (M_foot u_th), (M_turned u_th), (M_bothWays u_th), (M_now u_th), (M_heap u_th), (M_reason u_th), (M_image u_th), (M_isKept u_th)) (0 : Int32) (-6 : Int32)).bind fun z17 => (if 0 ≤ z17.1 then (f_X11_could_L70 n) v1 v2 v3 v4 v5 v6 v7 (v8 + (1 : Int32)) z17.2 else (if (M_foot z17.2) = v2 then (if v5 = 0 then (f_X11_could_L70 n) v1 v2 v3 v4 (v5 + (1 : Int32)) v8 v8 (v8 + (1 : Int32)) z17.2 else (f_X11_could_L70 n) v1 v2 v3 v4 (v5 + (1 : Int32)) v6 v8 (v8 + (1 : Int32)) z17.2) else (f_X11_could_L70 n) v1 v2 v3 v4 v5 v6 v7 (v8 + (1 : Int32)) z17.2))))
def f_X11_could (u_th : sM) (p1 : Int32) (p2 : Int32) (p3 : Int32) : Option (Int32 × sM) := (f_X11_is8 p1).bind fun z1 => (if z1.1 = 0 then some ((-1 : Int32), u_th) else (f_X11_is8 p2).bind fun z3 => (if z3.1 = 0 then some ((-1 : Int32), u_th) else (f_X11_in p3 (0 : Int32) (2 : Int32)).bind fun z5 => (if z5.1 = 0 then some ((-2 : Int32), u_th) else (f_X11_faultOf u_th).bind fun z7 => (if z7.1 < 0 then (f_X11_opens u_th).bind fun z9 => (if z9.1 ≤ 0 then (if p1 < 0 ∨ 8 ≤ p1.toNatClampNeg then none else f_X11_could_L70 oF p1 p2 p3 ((M_weight u_th) p1.toNatClampNeg) (0 : Int32) (-6 : Int32) (-6 : Int32) (1 : Int32) u_th) else some ((-3 : Int32), u_th)) else some ((-5 : Int32), u_th)))))
abbrev rmX11_could : Room := { frames := 4, cells := 0, slots := 0, locals := 110 }
def f_X11_seen (u_th : sM) (p1 : Int32) (p2 : Int32) : Option (Int32 × sM) := (f_X11_is8 p1).bind fun z1 => (if z1.1 = 0 then some ((-1 : Int32), u_th) else (f_X11_is8 p2).bind fun z3 => (if z3.1 = 0 then some ((-1 : Int32), u_th) else (if (M_sights u_th) = (6 : Int32) then some ((-4 : Int32), u_th) else (if ((2 : Int32) * (M_sights u_th)) < 0 ∨ 12 ≤ ((2 : Int32) * (M_sights u_th)).toNatClampNeg then none else (if (((2 : Int32) * (M_sights u_th)) + (1 : Int32)) < 0 ∨ 12 ≤ (((2 : Int32) * (M_sights u_th)) + (1 : Int32)).toNatClampNeg then none else some (((M_sights u_th) + (1 : Int32)), ((M_weight u_th), (M_sits u_th), (M_stones u_th), (M_at u_th), (M_drag u_th), ((M_sights u_th) + (1 : Int32)), (upd (upd (M_sight u_th) ((2 : Int32) * (M_sights u_th)).toNatClampNeg p1) (((2 : Int32) * (M_sights u_th)) + (1 : Int32)).toNatClampNeg p2), (M_signs u_th), (M_pad u_th), (M_foot u_th), (M_turned u_th), (M_bothWays u_th), (M_now u_th), (M_heap u_th), (M_reason u_th), (M_image u_th), (M_isKept u_th))))))))
abbrev rmX11_seen : Room := { frames := 2, cells := 0, slots := 0, locals := 50 }
def f_X11_forget (u_th : sM) : Option (Int32 × sM) := some ((M_sights u_th), ((M_weight u_th), (M_sits u_th), (M_stones u_th), (M_at u_th), (M_drag u_th), (0 : Int32), (M_sight u_th), (M_signs u_th), (M_pad u_th), (M_foot u_th), (M_turned u_th), (M_bothWays u_th), (M_now u_th), (M_heap u_th), (M_reason u_th), (M_image u_th), (M_isKept u_th)))
abbrev rmX11_forget : Room := { frames := 0, cells := 0, slots := 0, locals := 0 }
def f_X11_filled_J111 (K_29 : Int32 → Int32 → Int32 → Int32 → Int32 → sM → Option (Int32 × sM)) (v1 : Int32) (v2 : Int32) (v3 : Int32) (v4 : Int32) (v5 : Int32) (v6 : Int32) (u_th : sM) : Option (Int32 × sM) := (if v6 = 0 then K_29 v1 v2 v3 v4 (v5 + (1 : Int32)) u_th else (if 0 ≤ v4 then K_29 v1 v2 (v3 + (1 : Int32)) v4 (v5 + (1 : Int32)) u_th else K_29 v1 v2 (v3 + (1 : Int32)) v5 (v5 + (1 : Int32)) u_th))
def f_X11_filled_L56 (K_29 : Int32 → Int32 → Int32 → Int32 → Int32 → sM → Option (Int32 × sM)) : Nat → Int32 → Int32 → Int32 → Int32 → Int32 → Int32 → Int32 → sM → Option (Int32 × sM)
  | 0, _, _, _, _, _, _, _, _ => none
  | n + 1, v1, v2, v3, v4, v5, v6, v7, u_th => (if (M_sights u_th) ≤ v7 then f_X11_filled_J111 K_29 v1 v2 v3 v4 v5 v6 u_th else (if v6 = 0 then f_X11_filled_J111 K_29 v1 v2 v3 v4 v5 v6 u_th else (if (((2 : Int32) * v7) + (1 : Int32)) < 0 ∨ 12 ≤ (((2 : Int32) * v7) + (1 : Int32)).toNatClampNeg then none else (if ((M_sight u_th) (((2 : Int32) * v7) + (1 : Int32)).toNatClampNeg) < 0 ∨ 8 ≤ ((M_sight u_th) (((2 : Int32) * v7) + (1 : Int32)).toNatClampNeg).toNatClampNeg then none else (if ((2 : Int32) * v7) < 0 ∨ 12 ≤ ((2 : Int32) * v7).toNatClampNeg then none else (if ((M_now u_th) ((M_sight u_th) (((2 : Int32) * v7) + (1 : Int32)).toNatClampNeg).toNatClampNeg) = ((M_sight u_th) ((2 : Int32) * v7).toNatClampNeg) then (f_X11_filled_L56 K_29 n) v1 v2 v3 v4 v5 (1 : Int32) (v7 + (1 : Int32)) u_th else (f_X11_filled_L56 K_29 n) v1 v2 v3 v4 v5 (0 : Int32) (v7 + (1 : Int32)) u_th))))))
def f_X11_filled_L29 : Nat → Int32 → Int32 → Int32 → Int32 → Int32 → sM → Option (Int32 × sM)
  | 0, _, _, _, _, _, _ => none
  | n + 1, v1, v2, v3, v4, v5, u_th => (if v2 ≤ v5 then (if v1 = (-1 : Int32) then some (v3, u_th) else (if v4 < 0 then some ((-6 : Int32), u_th) else (f_X11_opens u_th).bind fun z8 => (f_X11_in v1 (0 : Int32) (z8.1 - (1 : Int32))).bind fun z9 => (if z9.1 = 0 then some ((-6 : Int32), u_th) else (f_X11_opens u_th).bind fun z11 => (f_X11_powerOf (8 : Int32) ((z11.1 - (1 : Int32)) - v1)).bind fun z12 => (if z12.1 = 0 then none else some (((v4 / z12.1) - (v4 / z12.1) / (8 : Int32) * (8 : Int32)), u_th))))) else (f_X11_goText u_th v5 (-6 : Int32)).bind fun z14 => (if 0 ≤ z14.1 then f_X11_filled_L56 (f_X11_filled_L29 n) oF v1 v2 v3 v4 v5 (0 : Int32) (0 : Int32) z14.2 else f_X11_filled_L56 (f_X11_filled_L29 n) oF v1 v2 v3 v4 v5 (1 : Int32) (0 : Int32) z14.2))
def f_X11_filled (u_th : sM) (p1 : Int32) : Option (Int32 × sM) := (f_X11_faultOf u_th).bind fun z1 => (if z1.1 < 0 then (f_X11_opens u_th).bind fun z3 => (f_X11_powerOf (8 : Int32) z3.1).bind fun z4 => f_X11_filled_L29 oF p1 z4.1 (0 : Int32) (-6 : Int32) (0 : Int32) u_th else some ((-5 : Int32), u_th))
abbrev rmX11_filled : Room := { frames := 4, cells := 0, slots := 0, locals := 110 }
def f_X11_offWheel_L4 (u_th : sM) : Nat → Int32 → Int32 → Option (Int32 × Unit)
  | 0, _, _ => none
  | n + 1, v2, v3 => (if (8 : Int32) ≤ v3 then some ((-6 : Int32), ()) else (f_X11_carOf u_th v3).bind fun z2 => (if 0 ≤ z2.1 then (f_X11_offWheel_L4 u_th n) v2 (v3 + (1 : Int32)) else (if v2 = 0 then some (v3, ()) else (f_X11_offWheel_L4 u_th n) (v2 + (-1 : Int32)) (v3 + (1 : Int32)))))
def f_X11_offWheel (u_th : sM) (p1 : Int32) : Option (Int32 × Unit) := f_X11_offWheel_L4 u_th oF p1 (0 : Int32)
abbrev rmX11_offWheel : Room := { frames := 1, cells := 0, slots := 0, locals := 27 }
def f_X11_chance_L290 : Nat → Int32 → Int64 → Int64 → Int64 → Int64 → sM → Option (Int64 × sM)
  | 0, _, _, _, _, _, _ => none
  | n + 1, v3, v4, v6, v9, v11, u_th => (if (lg_cmp v11 (0 : Int64)) = 0 then (if v3 = 0 then (if v9 = 0 then none else some ((v4 / v9), u_th)) else (if v9 = 0 then none else some ((v6 / v9), u_th))) else (if v11 = 0 then none else (f_X11_chance_L290 n) v3 v4 v6 v11 (v9 - v9 / v11 * v11) u_th))
def f_X11_chance_J242 (K_73 : Int32 → Int32 → Int32 → Int64 → Int64 → Int32 → Int32 → sM → Option (Int64 × sM)) (K_94 : Int32 → Int32 → Int32 → Int64 → Int64 → Int32 → Int32 → Int64 → Int32 → Int32 → sM → Option (Int64 × sM)) (v1 : Int32) (v2 : Int32) (v3 : Int32) (v4 : Int64) (v6 : Int64) (v8 : Int32) (v9 : Int32) (v10 : Int64) (v12 : Int32) (v13 : Int32) (u_th : sM) : Option (Int64 × sM) := (f_X11_letGo u_th).bind fun z25 => K_94 v1 v2 v3 v4 v6 v8 v9 v10 v12 (v13 + (1 : Int32)) z25
def f_X11_chance_J200 (K_73 : Int32 → Int32 → Int32 → Int64 → Int64 → Int32 → Int32 → sM → Option (Int64 × sM)) (K_94 : Int32 → Int32 → Int32 → Int64 → Int64 → Int32 → Int32 → Int64 → Int32 → Int32 → sM → Option (Int64 × sM)) (v1 : Int32) (v2 : Int32) (v3 : Int32) (v4 : Int64) (v6 : Int64) (v8 : Int32) (v9 : Int32) (v12 : Int32) (v13 : Int32) (v14 : Int32) (v15 : Int32) (v16 : Int32) (s0 : Int64) (s1 : Int64) (u_th : sM) : Option (Int64 × sM) := (if v16 ≤ v14 then f_X11_chance_J242 K_73 K_94 v1 v2 v3 v4 v6 v8 v9 (s0 * s1) v12 v13 u_th else (if (M_foot u_th) < 0 ∨ 8 ≤ (M_foot u_th).toNatClampNeg then none else (if 0 ≤ ((M_now u_th) (M_foot u_th).toNatClampNeg) then f_X11_chance_J242 K_73 K_94 v1 v2 v3 v4 v6 v8 v9 (s0 * s1) v12 v13 u_th else (if v15 ≤ 0 then f_X11_chance_J242 K_73 K_94 v1 v2 v3 v4 v6 v8 v9 (s0 * s1) v12 v13 u_th else (f_X11_offWheel u_th v14).bind fun z29 => (if (M_foot u_th) < 0 ∨ 8 ≤ (M_foot u_th).toNatClampNeg then none else f_X11_chance_J242 K_73 K_94 v1 v2 v3 v4 v6 v8 v9 (s0 * s1) v12 v13 ((M_weight u_th), (M_sits u_th), (M_stones u_th), (M_at u_th), (M_drag u_th), (M_sights u_th), (M_sight u_th), (M_signs u_th), (M_pad u_th), (M_foot u_th), (M_turned u_th), (M_bothWays u_th), (upd (M_now u_th) (M_foot u_th).toNatClampNeg z29.1), (M_heap u_th), (M_reason u_th), (M_image u_th), (M_isKept u_th)))))))
def f_X11_chance_J178 (K_73 : Int32 → Int32 → Int32 → Int64 → Int64 → Int32 → Int32 → sM → Option (Int64 × sM)) (K_94 : Int32 → Int32 → Int32 → Int64 → Int64 → Int32 → Int32 → Int64 → Int32 → Int32 → sM → Option (Int64 × sM)) (v1 : Int32) (v2 : Int32) (v3 : Int32) (v4 : Int64) (v6 : Int64) (v8 : Int32) (v9 : Int32) (v10 : Int64) (v12 : Int32) (v13 : Int32) (v14 : Int32) (v15 : Int32) (s0 : Int32) (u_th : sM) : Option (Int64 × sM) := (if s0 ≤ v14 then f_X11_chance_J200 K_73 K_94 v1 v2 v3 v4 v6 v8 v9 v12 v13 v14 v15 s0 v10 (0 : Int64) u_th else (if ((s0).toInt64) = 0 then none else f_X11_chance_J200 K_73 K_94 v1 v2 v3 v4 v6 v8 v9 v12 v13 v14 v15 s0 v10 ((840 : Int64) / ((s0).toInt64)) u_th))
def f_X11_chance_L123 (K_73 : Int32 → Int32 → Int32 → Int64 → Int64 → Int32 → Int32 → sM → Option (Int64 × sM)) (K_94 : Int32 → Int32 → Int32 → Int64 → Int64 → Int32 → Int32 → Int64 → Int32 → Int32 → sM → Option (Int64 × sM)) : Nat → Int32 → Int32 → Int32 → Int64 → Int64 → Int32 → Int32 → Int64 → Int32 → Int32 → Int32 → Int32 → Int32 → sM → Option (Int64 × sM)
  | 0, _, _, _, _, _, _, _, _, _, _, _, _, _, _ => none
  | n + 1, v1, v2, v3, v4, v6, v8, v9, v10, v12, v13, v14, v15, v16, u_th => (if (8 : Int32) ≤ v16 then (if (M_foot u_th) < 0 ∨ 8 ≤ (M_foot u_th).toNatClampNeg then none else (if 0 ≤ ((M_now u_th) (M_foot u_th).toNatClampNeg) then f_X11_chance_J178 K_73 K_94 v1 v2 v3 v4 v6 v8 v9 v10 v12 v13 v14 v15 (1 : Int32) u_th else (if v15 = 0 then f_X11_chance_J178 K_73 K_94 v1 v2 v3 v4 v6 v8 v9 v10 v12 v13 v14 v15 (1 : Int32) u_th else f_X11_chance_J178 K_73 K_94 v1 v2 v3 v4 v6 v8 v9 v10 v12 v13 v14 v15 v15 u_th))) else (f_X11_carOf u_th v16).bind fun z33 => (if 0 ≤ z33.1 then (f_X11_chance_L123 K_73 K_94 n) v1 v2 v3 v4 v6 v8 v9 v10 v12 v13 v14 (v15 + (0 : Int32)) (v16 + (1 : Int32)) u_th else (f_X11_chance_L123 K_73 K_94 n) v1 v2 v3 v4 v6 v8 v9 v10 v12 v13 v14 (v15 + (1 : Int32)) (v16 + (1 : Int32)) u_th))
def f_X11_chance_L94 (K_73 : Int32 → Int32 → Int32 → Int64 → Int64 → Int32 → Int32 → sM → Option (Int64 × sM)) : Nat → Int32 → Int32 → Int32 → Int64 → Int64 → Int32 → Int32 → Int64 → Int32 → Int32 → sM → Option (Int64 × sM)
  | 0, _, _, _, _, _, _, _, _, _, _, _ => none
  | n + 1, v1, v2, v3, v4, v6, v8, v9, v10, v12, v13, u_th => (if v2 ≤ v13 then (if (M_foot u_th) < 0 ∨ 8 ≤ (M_foot u_th).toNatClampNeg then none else (if ((M_now u_th) (M_foot u_th).toNatClampNeg) = v1 then K_73 v1 v2 v3 (v4 + v10) v6 v8 (v9 + (1 : Int32)) u_th else K_73 v1 v2 v3 (v4 + (0 : Int64)) v6 v8 (v9 + (1 : Int32)) u_th)) else (if (v12 / (8 : Int32)) = 0 then none else f_X11_chance_L123 K_73 (f_X11_chance_L94 K_73 n) oF v1 v2 v3 v4 v6 v8 v9 v10 (v12 / (8 : Int32)) v13 ((v9 / (v12 / (8 : Int32))) - (v9 / (v12 / (8 : Int32))) / (8 : Int32) * (8 : Int32)) (0 : Int32) (0 : Int32) u_th))
def f_X11_chance_L73 : Nat → Int32 → Int32 → Int32 → Int64 → Int64 → Int32 → Int32 → sM → Option (Int64 × sM)
  | 0, _, _, _, _, _, _, _, _ => none
  | n + 1, v1, v2, v3, v4, v6, v8, v9, u_th => (if v8 ≤ v9 then f_X11_chance_L290 oF v3 v4 v6 v4 v6 u_th else (f_X11_asNow u_th).bind fun z15 => f_X11_chance_L94 (f_X11_chance_L73 n) oF v1 v2 v3 v4 v6 v8 v9 (1 : Int64) v8 (0 : Int32) z15)
def f_X11_chance_L42 : Nat → Int32 → Int32 → Int32 → Int64 → Int64 → Int32 → sM → Option (Int64 × sM)
  | 0, _, _, _, _, _, _, _ => none
  | n + 1, v1, v2, v3, v4, v6, v8, u_th => (if v2 ≤ v8 then (f_X11_powerOf (8 : Int32) v2).bind fun z8 => f_X11_chance_L73 oF v1 v2 v3 v4 v6 z8.1 (0 : Int32) u_th else (f_X11_chance_L42 n) v1 v2 v3 v4 (v6 * (840 : Int64)) (v8 + (1 : Int32)) u_th)
def f_X11_chance (u_th : sM) (p1 : Int32) (p2 : Int32) (p3 : Int32) : Option (Int64 × sM) := (f_X11_is8 p1).bind fun z1 => (if z1.1 = 0 then some ((-1000000000000000001 : Int64), u_th) else (f_X11_in p2 (0 : Int32) (3 : Int32)).bind fun z3 => (if z3.1 = 0 then some ((-1000000000000000002 : Int64), u_th) else (f_X11_in p3 (0 : Int32) (1 : Int32)).bind fun z5 => (if z5.1 = 0 then some ((-1000000000000000002 : Int64), u_th) else f_X11_chance_L42 oF p1 p2 p3 (0 : Int64) (1 : Int64) (0 : Int32) u_th)))
abbrev rmX11_chance : Room := { frames := 3, cells := 0, slots := 0, locals := 80 }
def f_X11_year_J179 (K_49 : Int32 → Int32 → Int32 → Int32 → Int32 → sM → Option (Int32 × sM)) (v2 : Int32) (v3 : Int32) (v4 : Int32) (v5 : Int32) (v6 : Int32) (s1 : Int32) (u_th : sM) : Option (Int32 × sM) := (f_X11_letGo ((M_weight u_th), (M_sits u_th), (M_stones u_th), (M_at u_th), (M_drag u_th), (M_sights u_th), (M_sight u_th), (M_signs u_th), (M_pad u_th), s1, (M_turned u_th), (M_bothWays u_th), (M_now u_th), (M_heap u_th), (M_reason u_th), (M_image u_th), (M_isKept u_th))).bind fun z18 => (if (M_foot z18) = v3 then K_49 v2 v3 v4 (v5 + (1 : Int32)) (v6 + (1 : Int32)) z18 else K_49 v2 v3 v4 (v5 + (0 : Int32)) (v6 + (1 : Int32)) z18)
def f_X11_year_J151 (K_49 : Int32 → Int32 → Int32 → Int32 → Int32 → sM → Option (Int32 × sM)) (v2 : Int32) (v3 : Int32) (v4 : Int32) (v5 : Int32) (v6 : Int32) (s1 : Int32) (s2 : Int32) (u_th : sM) : Option (Int32 × sM) := (if s1 < 0 ∨ 8 ≤ s1.toNatClampNeg then none else (if ((v4 / (16 : Int32)) - (v4 / (16 : Int32)) / (3 : Int32) * (3 : Int32)) = 0 then f_X11_year_J179 K_49 v2 v3 v4 v5 v6 (((M_foot u_th) + (1 : Int32)) - ((M_foot u_th) + (1 : Int32)) / (8 : Int32) * (8 : Int32)) ((M_weight u_th), (M_sits u_th), (M_stones u_th), (M_at u_th), (M_drag u_th), (M_sights u_th), (M_sight u_th), (M_signs u_th), (M_pad u_th), (M_foot u_th), (M_turned u_th), (M_bothWays u_th), (upd (M_now u_th) s1.toNatClampNeg s2), (M_heap u_th), (M_reason u_th), (M_image u_th), (M_isKept u_th)) else f_X11_year_J179 K_49 v2 v3 v4 v5 v6 (M_foot u_th) ((M_weight u_th), (M_sits u_th), (M_stones u_th), (M_at u_th), (M_drag u_th), (M_sights u_th), (M_sight u_th), (M_signs u_th), (M_pad u_th), (M_foot u_th), (M_turned u_th), (M_bothWays u_th), (upd (M_now u_th) s1.toNatClampNeg s2), (M_heap u_th), (M_reason u_th), (M_image u_th), (M_isKept u_th))))
def f_X11_year_J142 (K_49 : Int32 → Int32 → Int32 → Int32 → Int32 → sM → Option (Int32 × sM)) (v2 : Int32) (v3 : Int32) (v4 : Int32) (v5 : Int32) (v6 : Int32) (s1 : Int32) (u_th : sM) : Option (Int32 × sM) := (if (M_foot u_th) < 0 ∨ 8 ≤ (M_foot u_th).toNatClampNeg then none else f_X11_year_J151 K_49 v2 v3 v4 v5 v6 s1 ((M_now u_th) (M_foot u_th).toNatClampNeg) u_th)
def f_X11_year_J98 (K_49 : Int32 → Int32 → Int32 → Int32 → Int32 → sM → Option (Int32 × sM)) (v2 : Int32) (v3 : Int32) (v4 : Int32) (v5 : Int32) (v6 : Int32) (s1 : Int32) (s2 : Int32) (u_th : sM) : Option (Int32 × sM) := (if s1 < 0 ∨ 8 ≤ s1.toNatClampNeg then none else (if (M_foot u_th) < 0 ∨ 8 ≤ (M_foot u_th).toNatClampNeg then none else (if 0 ≤ ((upd (M_now u_th) s1.toNatClampNeg s2) (M_foot u_th).toNatClampNeg) then f_X11_year_J142 K_49 v2 v3 v4 v5 v6 (M_foot u_th) ((M_weight u_th), (M_sits u_th), (M_stones u_th), (M_at u_th), (M_drag u_th), (M_sights u_th), (M_sight u_th), (M_signs u_th), (M_pad u_th), (M_foot u_th), (M_turned u_th), (M_bothWays u_th), (upd (M_now u_th) s1.toNatClampNeg s2), (M_heap u_th), (M_reason u_th), (M_image u_th), (M_isKept u_th)) else (f_X11_carOf ((M_weight u_th), (M_sits u_th), (M_stones u_th), (M_at u_th), (M_drag u_th), (M_sights u_th), (M_sight u_th), (M_signs u_th), (M_pad u_th), (M_foot u_th), (M_turned u_th), (M_bothWays u_th), (upd (M_now u_th) s1.toNatClampNeg s2), (M_heap u_th), (M_reason u_th), (M_image u_th), (M_isKept u_th)) ((v4 / (2 : Int32)) - (v4 / (2 : Int32)) / (8 : Int32) * (8 : Int32))).bind fun z20 => (if 0 ≤ z20.1 then f_X11_year_J142 K_49 v2 v3 v4 v5 v6 (M_foot u_th) ((M_weight u_th), (M_sits u_th), (M_stones u_th), (M_at u_th), (M_drag u_th), (M_sights u_th), (M_sight u_th), (M_signs u_th), (M_pad u_th), (M_foot u_th), (M_turned u_th), (M_bothWays u_th), (upd (M_now u_th) s1.toNatClampNeg s2), (M_heap u_th), (M_reason u_th), (M_image u_th), (M_isKept u_th)) else f_X11_year_J151 K_49 v2 v3 v4 v5 v6 (M_foot u_th) ((v4 / (2 : Int32)) - (v4 / (2 : Int32)) / (8 : Int32) * (8 : Int32)) ((M_weight u_th), (M_sits u_th), (M_stones u_th), (M_at u_th), (M_drag u_th), (M_sights u_th), (M_sight u_th), (M_signs u_th), (M_pad u_th), (M_foot u_th), (M_turned u_th), (M_bothWays u_th), (upd (M_now u_th) s1.toNatClampNeg s2), (M_heap u_th), (M_reason u_th), (M_image u_th), (M_isKept u_th))))))
def f_X11_year_L49 : Nat → Int32 → Int32 → Int32 → Int32 → Int32 → sM → Option (Int32 × sM)
  | 0, _, _, _, _, _, _ => none
  | n + 1, v2, v3, v4, v5, v6, u_th => (if v2 ≤ v6 then (if 0 ≤ v3 then some (v5, u_th) else some ((M_bothWays u_th), u_th)) else (if (((((75 : Int32) * v4) + (74 : Int32)) - (((75 : Int32) * v4) + (74 : Int32)) / (65537 : Int32) * (65537 : Int32)) - ((((75 : Int32) * v4) + (74 : Int32)) - (((75 : Int32) * v4) + (74 : Int32)) / (65537 : Int32) * (65537 : Int32)) / (2 : Int32) * (2 : Int32)) = (1 : Int32) then f_X11_year_J98 (f_X11_year_L49 n) v2 v3 ((((75 : Int32) * v4) + (74 : Int32)) - (((75 : Int32) * v4) + (74 : Int32)) / (65537 : Int32) * (65537 : Int32)) v5 v6 (M_foot u_th) (-6 : Int32) u_th else (if (M_foot u_th) < 0 ∨ 8 ≤ (M_foot u_th).toNatClampNeg then none else f_X11_year_J98 (f_X11_year_L49 n) v2 v3 ((((75 : Int32) * v4) + (74 : Int32)) - (((75 : Int32) * v4) + (74 : Int32)) / (65537 : Int32) * (65537 : Int32)) v5 v6 (M_foot u_th) ((M_now u_th) (M_foot u_th).toNatClampNeg) u_th)))
def f_X11_year (u_th : sM) (p1 : Int32) (p2 : Int32) (p3 : Int32) : Option (Int32 × sM) := (f_X11_in p3 (-1 : Int32) (7 : Int32)).bind fun z1 => (if z1.1 = 0 then some ((-1 : Int32), u_th) else (f_X11_in p1 (0 : Int32) (9999 : Int32)).bind fun z3 => (if z3.1 = 0 then some ((-2 : Int32), u_th) else (f_X11_in p2 (1 : Int32) (99 : Int32)).bind fun z5 => (if z5.1 = 0 then some ((-2 : Int32), u_th) else (f_X11_asNow u_th).bind fun z7 => f_X11_year_L49 oF p2 p3 p1 (0 : Int32) (0 : Int32) z7)))
abbrev rmX11_year : Room := { frames := 3, cells := 0, slots := 0, locals := 80 }
def f_X11_image_L81 : Nat → Int32 → Int32 → Int32 → sM → Option (Int32 × sM)
  | 0, _, _, _, _ => none
  | n + 1, v1, v2, v3, u_th => (if (12 : Int32) ≤ v3 then (if (v2 + (36 : Int32)) < 0 ∨ 80 ≤ (v2 + (36 : Int32)).toNatClampNeg then none else (if (v2 + (37 : Int32)) < 0 ∨ 80 ≤ (v2 + (37 : Int32)).toNatClampNeg then none else (if (v2 + (38 : Int32)) < 0 ∨ 80 ≤ (v2 + (38 : Int32)).toNatClampNeg then none else (if v1 < 0 ∨ 2 ≤ v1.toNatClampNeg then none else some ((1 : Int32), ((M_weight u_th), (M_sits u_th), (M_stones u_th), (M_at u_th), (M_drag u_th), (M_sights u_th), (M_sight u_th), (M_signs u_th), (M_pad u_th), (M_foot u_th), (M_turned u_th), (M_bothWays u_th), (M_now u_th), (M_heap u_th), (M_reason u_th), (upd (upd (upd (M_image u_th) (v2 + (36 : Int32)).toNatClampNeg (M_at u_th)) (v2 + (37 : Int32)).toNatClampNeg (M_drag u_th)) (v2 + (38 : Int32)).toNatClampNeg (M_sights u_th)), (upd (M_isKept u_th) v1.toNatClampNeg (1 : Int32)))))))) else (if v3 < 0 ∨ 12 ≤ v3.toNatClampNeg then none else (if ((v2 + (24 : Int32)) + v3) < 0 ∨ 80 ≤ ((v2 + (24 : Int32)) + v3).toNatClampNeg then none else (f_X11_image_L81 n) v1 v2 (v3 + (1 : Int32)) ((M_weight u_th), (M_sits u_th), (M_stones u_th), (M_at u_th), (M_drag u_th), (M_sights u_th), (M_sight u_th), (M_signs u_th), (M_pad u_th), (M_foot u_th), (M_turned u_th), (M_bothWays u_th), (M_now u_th), (M_heap u_th), (M_reason u_th), (upd (M_image u_th) ((v2 + (24 : Int32)) + v3).toNatClampNeg ((M_sight u_th) v3.toNatClampNeg)), (M_isKept u_th)))))
def f_X11_image_L19 : Nat → Int32 → Int32 → Int32 → sM → Option (Int32 × sM)
  | 0, _, _, _, _ => none
  | n + 1, v1, v2, v3, u_th => (if (8 : Int32) ≤ v3 then f_X11_image_L81 oF v1 v2 (0 : Int32) u_th else (if v3 < 0 ∨ 8 ≤ v3.toNatClampNeg then none else (if (v2 + v3) < 0 ∨ 80 ≤ (v2 + v3).toNatClampNeg then none else (if v3 < 0 ∨ 8 ≤ v3.toNatClampNeg then none else (if ((v2 + (8 : Int32)) + v3) < 0 ∨ 80 ≤ ((v2 + (8 : Int32)) + v3).toNatClampNeg then none else (if v3 < 0 ∨ 8 ≤ v3.toNatClampNeg then none else (if ((v2 + (16 : Int32)) + v3) < 0 ∨ 80 ≤ ((v2 + (16 : Int32)) + v3).toNatClampNeg then none else (f_X11_image_L19 n) v1 v2 (v3 + (1 : Int32)) ((M_weight u_th), (M_sits u_th), (M_stones u_th), (M_at u_th), (M_drag u_th), (M_sights u_th), (M_sight u_th), (M_signs u_th), (M_pad u_th), (M_foot u_th), (M_turned u_th), (M_bothWays u_th), (M_now u_th), (M_heap u_th), (M_reason u_th), (upd (upd (upd (M_image u_th) (v2 + v3).toNatClampNeg ((M_weight u_th) v3.toNatClampNeg)) ((v2 + (8 : Int32)) + v3).toNatClampNeg ((M_sits u_th) v3.toNatClampNeg)) ((v2 + (16 : Int32)) + v3).toNatClampNeg ((M_stones u_th) v3.toNatClampNeg)), (M_isKept u_th)))))))))
def f_X11_image (u_th : sM) (p1 : Int32) : Option (Int32 × sM) := (f_X11_in p1 (0 : Int32) (1 : Int32)).bind fun z1 => (if z1.1 = 0 then some ((-2 : Int32), u_th) else f_X11_image_L19 oF p1 ((40 : Int32) * p1) (0 : Int32) u_th)
abbrev rmX11_image : Room := { frames := 1, cells := 0, slots := 0, locals := 26 }
def f_X11_restore_L93 : Nat → Int32 → Int32 → sM → Option (Int32 × sM)
  | 0, _, _, _ => none
  | n + 1, v2, v3, u_th => (if (12 : Int32) ≤ v3 then (if (v2 + (36 : Int32)) < 0 ∨ 80 ≤ (v2 + (36 : Int32)).toNatClampNeg then none else (if (v2 + (37 : Int32)) < 0 ∨ 80 ≤ (v2 + (37 : Int32)).toNatClampNeg then none else (if (v2 + (38 : Int32)) < 0 ∨ 80 ≤ (v2 + (38 : Int32)).toNatClampNeg then none else some ((1 : Int32), ((M_weight u_th), (M_sits u_th), (M_stones u_th), ((M_image u_th) (v2 + (36 : Int32)).toNatClampNeg), ((M_image u_th) (v2 + (37 : Int32)).toNatClampNeg), ((M_image u_th) (v2 + (38 : Int32)).toNatClampNeg), (M_sight u_th), (M_signs u_th), (M_pad u_th), (M_foot u_th), (M_turned u_th), (M_bothWays u_th), (M_now u_th), (M_heap u_th), (M_reason u_th), (M_image u_th), (M_isKept u_th)))))) else (if ((v2 + (24 : Int32)) + v3) < 0 ∨ 80 ≤ ((v2 + (24 : Int32)) + v3).toNatClampNeg then none else (if v3 < 0 ∨ 12 ≤ v3.toNatClampNeg then none else (f_X11_restore_L93 n) v2 (v3 + (1 : Int32)) ((M_weight u_th), (M_sits u_th), (M_stones u_th), (M_at u_th), (M_drag u_th), (M_sights u_th), (upd (M_sight u_th) v3.toNatClampNeg ((M_image u_th) ((v2 + (24 : Int32)) + v3).toNatClampNeg)), (M_signs u_th), (M_pad u_th), (M_foot u_th), (M_turned u_th), (M_bothWays u_th), (M_now u_th), (M_heap u_th), (M_reason u_th), (M_image u_th), (M_isKept u_th)))))
def f_X11_restore_L31 : Nat → Int32 → Int32 → sM → Option (Int32 × sM)
  | 0, _, _, _ => none
  | n + 1, v2, v3, u_th => (if (8 : Int32) ≤ v3 then f_X11_restore_L93 oF v2 (0 : Int32) u_th else (if (v2 + v3) < 0 ∨ 80 ≤ (v2 + v3).toNatClampNeg then none else (if v3 < 0 ∨ 8 ≤ v3.toNatClampNeg then none else (if ((v2 + (8 : Int32)) + v3) < 0 ∨ 80 ≤ ((v2 + (8 : Int32)) + v3).toNatClampNeg then none else (if v3 < 0 ∨ 8 ≤ v3.toNatClampNeg then none else (if ((v2 + (16 : Int32)) + v3) < 0 ∨ 80 ≤ ((v2 + (16 : Int32)) + v3).toNatClampNeg then none else (if v3 < 0 ∨ 8 ≤ v3.toNatClampNeg then none else (f_X11_restore_L31 n) v2 (v3 + (1 : Int32)) ((upd (M_weight u_th) v3.toNatClampNeg ((M_image u_th) (v2 + v3).toNatClampNeg)), (upd (M_sits u_th) v3.toNatClampNeg ((M_image u_th) ((v2 + (8 : Int32)) + v3).toNatClampNeg)), (upd (M_stones u_th) v3.toNatClampNeg ((M_image u_th) ((v2 + (16 : Int32)) + v3).toNatClampNeg)), (M_at u_th), (M_drag u_th), (M_sights u_th), (M_sight u_th), (M_signs u_th), (M_pad u_th), (M_foot u_th), (M_turned u_th), (M_bothWays u_th), (M_now u_th), (M_heap u_th), (M_reason u_th), (M_image u_th), (M_isKept u_th)))))))))
def f_X11_restore (u_th : sM) (p1 : Int32) : Option (Int32 × sM) := (f_X11_in p1 (0 : Int32) (1 : Int32)).bind fun z1 => (if z1.1 = 0 then some ((-2 : Int32), u_th) else (if p1 < 0 ∨ 2 ≤ p1.toNatClampNeg then none else (if ((M_isKept u_th) p1.toNatClampNeg) = 0 then some ((-3 : Int32), u_th) else f_X11_restore_L31 oF ((40 : Int32) * p1) (0 : Int32) u_th)))
abbrev rmX11_restore : Room := { frames := 1, cells := 0, slots := 0, locals := 26 }
def f_X11_told_L95 : Nat → Int32 → Int32 → sM → Option (Int32 × sM)
  | 0, _, _, _ => none
  | n + 1, v2, v3, u_th => (if (8 : Int32) ≤ v3 then some (v2, u_th) else (if v3 < 0 ∨ 8 ≤ v3.toNatClampNeg then none else (if 0 ≤ ((M_sits u_th) v3.toNatClampNeg) then (f_X11_told_L95 n) (v2 ||| ((1 : Int32) <<< (v3 &&& 31))) (v3 + (1 : Int32)) u_th else (f_X11_told_L95 n) (v2 ||| (0 : Int32)) (v3 + (1 : Int32)) u_th)))
def f_X11_told (u_th : sM) (p1 : Int32) : Option (Int32 × sM) := (f_X11_in p1 (10 : Int32) (17 : Int32)).bind fun z1 => (if z1.1 = 0 then (f_X11_in p1 (20 : Int32) (27 : Int32)).bind fun z3 => (if z3.1 = 0 then (if p1 = 0 then some ((M_signs u_th), u_th) else (if p1 = 1 then some ((M_drag u_th), u_th) else (if p1 = 2 then some ((M_sights u_th), u_th) else (if p1 = 3 then f_X11_told_L95 oF (0 : Int32) (0 : Int32) u_th else some ((-2 : Int32), u_th))))) else (f_X11_asNow u_th).bind fun z12 => (f_X11_carOf z12 (p1 - (20 : Int32))).bind fun z13 => some (z13.1, z12)) else (if (p1 - (10 : Int32)) < 0 ∨ 8 ≤ (p1 - (10 : Int32)).toNatClampNeg then none else some (((M_weight u_th) (p1 - (10 : Int32)).toNatClampNeg), u_th)))
abbrev rmX11_told : Room := { frames := 1, cells := 0, slots := 0, locals := 27 }
theorem hd_X10_at : yX10_at.cls ≠ "java/lang/invoke/MethodHandle" ∧ yX10_at.cls ≠ "java/lang/invoke/VarHandle" ∧ (parseMethodDescriptor yX10_at.desc).map (fun d => d.parameters.length) = some 2 := by decide +kernel
set_option maxHeartbeats 4000000 in
set_option maxRecDepth 100000 in
theorem c_X10_at (l : Launch) (D : va_G) (cI cZ : ClassId) (r00 : Nat) (sz : Nat) (n_r0 : Nat) (u_r0 : Fn) (p1 : Int32) (z : Int32 × Unit) (hf : f_X10_at n_r0 u_r0 p1 = some z) : Met l yX10_at wsX10_at rmX10_at (va_Pc [.ref r00, .int p1] (wPr D cI cZ (cA cI r00 n_r0 u_r0) sz)) (va_Qi (fun (r : Int32) (v : Unit) => (r, v) = z) (fun (v : Unit) t => wPo D cI cZ (va_A (cA cI r00 n_r0 u_r0) sz) (cA cI r00 n_r0 u_r0) t) (va_A (cA cI r00 n_r0 u_r0) sz)) 0 0 (va_A (cA cI r00 n_r0 u_r0) sz) := by
  refine k_enter (D := D) (cI := cI) (cZ := cZ) (wl := cA cI r00 n_r0 u_r0) (sz := sz) (av := [.ref r00, .int p1]) (cc := cX10_at) (maxL := 2) (ret := (some .int)) (Qc := fun A => va_Qi (fun (r : Int32) (v : Unit) => (r, v) = z) (fun (v : Unit) t => wPo D cI cZ (A) (cA cI r00 n_r0 u_r0) t) (A)) (by decide) rfl (Nat.le_of_ble_eq_true rfl) ?_
  intro p e s m below meth c ls A Q H locs eQ hx hb hr hml hts hown hlocks hK hP hD hS hA hE hl
  have hown : s.vm.findClass RX10 = some m.cls := hown
  have hl : lv_has ls 2 [(0, .ref r00), (1, .int p1)] := hl
  rw [f_X10_at] at hf
  refine lv_iload_n hx hb dX10_at_0 rfl (lv_at hl 1 rfl) ?_
  refine lv_if_lt (tgt := 16) hx hb dX10_at_1 (by decide) (fun c1 => ?_) (fun c1 => ?_)
  · have hf := (if_pos c1).symm.trans hf
    refine lv_bipush (v := -6) hx hb dX10_at_16 (by decide) ?_
    exact k_iret (v := (-6 : Int32)) (u := ()) hx hb hr hlocks hK hS eQ hf hP hD dX10_at_18
  · have hf := (if_neg c1).symm.trans hf
    refine lv_iload_n hx hb dX10_at_4 rfl (lv_at hl 1 rfl) ?_
    refine lv_aload_n hx hb dX10_at_5 rfl (lv_at hl 0 rfl) ?_
    refine va_alen hx hb hK hP 0 0 rfl rfl (v := (Int32.ofNat n_r0)) rfl dX10_at_6 ?_
    refine lv_icmp_ge (tgt := 16) hx hb dX10_at_7 (by decide) (fun c2 => ?_) (fun c2 => ?_)
    · have hf := (if_pos c2).symm.trans hf
      refine lv_bipush (v := -6) hx hb dX10_at_16 (by decide) ?_
      exact k_iret (v := (-6 : Int32)) (u := ()) hx hb hr hlocks hK hS eQ hf hP hD dX10_at_18
    · have hf := (if_neg c2).symm.trans hf
      refine lv_aload_n hx hb dX10_at_10 rfl (lv_at hl 0 rfl) ?_
      refine lv_iload_n hx hb dX10_at_11 rfl (lv_at hl 1 rfl) ?_
      by_cases c3 : p1 < 0 ∨ n_r0 ≤ p1.toNatClampNeg
      · have hf := (if_pos c3).symm.trans hf
        cases hf
      have hf := (if_neg c3).symm.trans hf
      refine va_iald hx hb hK hP 0 0 rfl rfl (show vp_in p1 n_r0 from c3) dX10_at_12 ?_
      refine lv_goto (tgt := 18) hx hb dX10_at_13 (by decide) ?_
      exact k_iret (v := (u_r0 p1.toNatClampNeg)) (u := ()) hx hb hr hlocks hK hS eQ hf hP hD dX10_at_18
theorem hd_X10_put : yX10_put.cls ≠ "java/lang/invoke/MethodHandle" ∧ yX10_put.cls ≠ "java/lang/invoke/VarHandle" ∧ (parseMethodDescriptor yX10_put.desc).map (fun d => d.parameters.length) = some 3 := by decide +kernel
set_option maxHeartbeats 4000000 in
set_option maxRecDepth 100000 in
theorem c_X10_put (l : Launch) (D : va_G) (cI cZ : ClassId) (r00 : Nat) (sz : Nat) (n_r0 : Nat) (u_r0 : Fn) (p1 : Int32) (p2 : Int32) (z : Fn) (hf : f_X10_put n_r0 u_r0 p1 p2 = some z) : Met l yX10_put wsX10_put rmX10_put (va_Pc [.ref r00, .int p1, .int p2] (wPr D cI cZ (cA cI r00 n_r0 u_r0) sz)) (va_Qv (fun (v : Fn) => v = z) (fun (v : Fn) t => wPo D cI cZ (va_A (cA cI r00 n_r0 u_r0) sz) (cA cI r00 n_r0 v) t) (va_A (cA cI r00 n_r0 u_r0) sz)) 0 0 (va_A (cA cI r00 n_r0 u_r0) sz) := by
  refine k_enter (D := D) (cI := cI) (cZ := cZ) (wl := cA cI r00 n_r0 u_r0) (sz := sz) (av := [.ref r00, .int p1, .int p2]) (cc := cX10_put) (maxL := 3) (ret := none) (Qc := fun A => va_Qv (fun (v : Fn) => v = z) (fun (v : Fn) t => wPo D cI cZ (A) (cA cI r00 n_r0 v) t) (A)) (by decide) rfl (Nat.le_of_ble_eq_true rfl) ?_
  intro p e s m below meth c ls A Q H locs eQ hx hb hr hml hts hown hlocks hK hP hD hS hA hE hl
  have hown : s.vm.findClass RX10 = some m.cls := hown
  have hl : lv_has ls 3 [(0, .ref r00), (1, .int p1), (2, .int p2)] := hl
  rw [f_X10_put] at hf
  refine lv_iload_n hx hb dX10_put_0 rfl (lv_at hl 1 rfl) ?_
  refine lv_if_lt (tgt := 14) hx hb dX10_put_1 (by decide) (fun c1 => ?_) (fun c1 => ?_)
  · have hf := (if_pos c1).symm.trans hf
    exact k_vret (u := u_r0) hx hb hr hlocks hK hS eQ hf hP hD dX10_put_14
  · have hf := (if_neg c1).symm.trans hf
    refine lv_iload_n hx hb dX10_put_4 rfl (lv_at hl 1 rfl) ?_
    refine lv_aload_n hx hb dX10_put_5 rfl (lv_at hl 0 rfl) ?_
    refine va_alen hx hb hK hP 0 0 rfl rfl (v := (Int32.ofNat n_r0)) rfl dX10_put_6 ?_
    refine lv_icmp_ge (tgt := 14) hx hb dX10_put_7 (by decide) (fun c2 => ?_) (fun c2 => ?_)
    · have hf := (if_pos c2).symm.trans hf
      exact k_vret (u := u_r0) hx hb hr hlocks hK hS eQ hf hP hD dX10_put_14
    · have hf := (if_neg c2).symm.trans hf
      refine lv_aload_n hx hb dX10_put_10 rfl (lv_at hl 0 rfl) ?_
      refine lv_iload_n hx hb dX10_put_11 rfl (lv_at hl 1 rfl) ?_
      refine lv_iload_n hx hb dX10_put_12 rfl (lv_at hl 2 rfl) ?_
      by_cases c3 : p1 < 0 ∨ n_r0 ≤ p1.toNatClampNeg
      · have hf := (if_pos c3).symm.trans hf
        cases hf
      have hf := (if_neg c3).symm.trans hf
      refine va_iast hx hb hK hP hD hS 0 0 rfl rfl (show vp_in p1 n_r0 from c3) dX10_put_13 (fun H locs hP hD hS => ?_)
      have hP : va_P D vwCl (cA cI r00 n_r0 (upd u_r0 p1.toNatClampNeg p2)) H := hP
      have hD : va_D A (cA cI r00 n_r0 (upd u_r0 p1.toNatClampNeg p2)) := hD
      exact k_vret (u := (upd u_r0 p1.toNatClampNeg p2)) hx hb hr hlocks hK hS eQ hf hP hD dX10_put_14
theorem hd_X10_isPerson : yX10_isPerson.cls ≠ "java/lang/invoke/MethodHandle" ∧ yX10_isPerson.cls ≠ "java/lang/invoke/VarHandle" ∧ (parseMethodDescriptor yX10_isPerson.desc).map (fun d => d.parameters.length) = some 1 := by decide +kernel
set_option maxHeartbeats 4000000 in
set_option maxRecDepth 100000 in
theorem c_X10_isPerson (l : Launch) (D : va_G) (cI cZ : ClassId) (sz : Nat) (p0 : Int32) (z : Int32 × Unit) (hf : f_X10_isPerson p0 = some z) : Met l yX10_isPerson wsX10_isPerson rmX10_isPerson (va_Pc [.int p0] (wPr D cI cZ (([] : va_W)) sz)) (va_Qi (fun (r : Int32) (v : Unit) => (r, v) = z) (fun (v : Unit) t => wPo D cI cZ (va_A (([] : va_W)) sz) (([] : va_W)) t) (va_A (([] : va_W)) sz)) 0 0 (va_A (([] : va_W)) sz) := by
  refine k_enter (D := D) (cI := cI) (cZ := cZ) (wl := ([] : va_W)) (sz := sz) (av := [.int p0]) (cc := cX10_isPerson) (maxL := 1) (ret := (some .boolean)) (Qc := fun A => va_Qi (fun (r : Int32) (v : Unit) => (r, v) = z) (fun (v : Unit) t => wPo D cI cZ (A) (([] : va_W)) t) (A)) (by decide) rfl (Nat.le_of_ble_eq_true rfl) ?_
  intro p e s m below meth c ls A Q H locs eQ hx hb hr hml hts hown hlocks hK hP hD hS hA hE hl
  have hown : s.vm.findClass RX10 = some m.cls := hown
  have hl : lv_has ls 1 [(0, .int p0)] := hl
  rw [f_X10_isPerson] at hf
  refine lv_iload_n hx hb dX10_isPerson_0 rfl (lv_at hl 0 rfl) ?_
  refine lv_if_lt (tgt := 14) hx hb dX10_isPerson_1 (by decide) (fun c1 => ?_) (fun c1 => ?_)
  · have hf := (if_pos c1).symm.trans hf
    refine lv_iconst (v := 0) hx hb dX10_isPerson_14 (by decide) ?_
    exact k_zret (v := (0 : Int32)) (u := ()) hx hb hr hlocks hK hS eQ (by decide) hf hP hD dX10_isPerson_15
  · have hf := (if_neg c1).symm.trans hf
    refine lv_iload_n hx hb dX10_isPerson_4 rfl (lv_at hl 0 rfl) ?_
    refine lv_bipush (v := 8) hx hb dX10_isPerson_5 (by decide) ?_
    refine lv_icmp_ge (tgt := 14) hx hb dX10_isPerson_7 (by decide) (fun c2 => ?_) (fun c2 => ?_)
    · have hf := (if_pos c2).symm.trans hf
      refine lv_iconst (v := 0) hx hb dX10_isPerson_14 (by decide) ?_
      exact k_zret (v := (0 : Int32)) (u := ()) hx hb hr hlocks hK hS eQ (by decide) hf hP hD dX10_isPerson_15
    · have hf := (if_neg c2).symm.trans hf
      refine lv_iconst (v := 1) hx hb dX10_isPerson_10 (by decide) ?_
      refine lv_goto (tgt := 15) hx hb dX10_isPerson_11 (by decide) ?_
      exact k_zret (v := (1 : Int32)) (u := ()) hx hb hr hlocks hK hS eQ (by decide) hf hP hD dX10_isPerson_15
theorem hd_X10_isCar : yX10_isCar.cls ≠ "java/lang/invoke/MethodHandle" ∧ yX10_isCar.cls ≠ "java/lang/invoke/VarHandle" ∧ (parseMethodDescriptor yX10_isCar.desc).map (fun d => d.parameters.length) = some 1 := by decide +kernel
set_option maxHeartbeats 4000000 in
set_option maxRecDepth 100000 in
theorem c_X10_isCar (l : Launch) (D : va_G) (cI cZ : ClassId) (sz : Nat) (p0 : Int32) (z : Int32 × Unit) (hf : f_X10_isCar p0 = some z) : Met l yX10_isCar wsX10_isCar rmX10_isCar (va_Pc [.int p0] (wPr D cI cZ (([] : va_W)) sz)) (va_Qi (fun (r : Int32) (v : Unit) => (r, v) = z) (fun (v : Unit) t => wPo D cI cZ (va_A (([] : va_W)) sz) (([] : va_W)) t) (va_A (([] : va_W)) sz)) 0 0 (va_A (([] : va_W)) sz) := by
  refine k_enter (D := D) (cI := cI) (cZ := cZ) (wl := ([] : va_W)) (sz := sz) (av := [.int p0]) (cc := cX10_isCar) (maxL := 1) (ret := (some .boolean)) (Qc := fun A => va_Qi (fun (r : Int32) (v : Unit) => (r, v) = z) (fun (v : Unit) t => wPo D cI cZ (A) (([] : va_W)) t) (A)) (by decide) rfl (Nat.le_of_ble_eq_true rfl) ?_
  intro p e s m below meth c ls A Q H locs eQ hx hb hr hml hts hown hlocks hK hP hD hS hA hE hl
  have hown : s.vm.findClass RX10 = some m.cls := hown
  have hl : lv_has ls 1 [(0, .int p0)] := hl
  rw [f_X10_isCar] at hf
  refine lv_iload_n hx hb dX10_isCar_0 rfl (lv_at hl 0 rfl) ?_
  refine lv_if_lt (tgt := 14) hx hb dX10_isCar_1 (by decide) (fun c1 => ?_) (fun c1 => ?_)
  · have hf := (if_pos c1).symm.trans hf
    refine lv_iconst (v := 0) hx hb dX10_isCar_14 (by decide) ?_
    exact k_zret (v := (0 : Int32)) (u := ()) hx hb hr hlocks hK hS eQ (by decide) hf hP hD dX10_isCar_15
  · have hf := (if_neg c1).symm.trans hf
    refine lv_iload_n hx hb dX10_isCar_4 rfl (lv_at hl 0 rfl) ?_
    refine lv_bipush (v := 8) hx hb dX10_isCar_5 (by decide) ?_
    refine lv_icmp_ge (tgt := 14) hx hb dX10_isCar_7 (by decide) (fun c2 => ?_) (fun c2 => ?_)
    · have hf := (if_pos c2).symm.trans hf
      refine lv_iconst (v := 0) hx hb dX10_isCar_14 (by decide) ?_
      exact k_zret (v := (0 : Int32)) (u := ()) hx hb hr hlocks hK hS eQ (by decide) hf hP hD dX10_isCar_15
    · have hf := (if_neg c2).symm.trans hf
      refine lv_iconst (v := 1) hx hb dX10_isCar_10 (by decide) ?_
      refine lv_goto (tgt := 15) hx hb dX10_isCar_11 (by decide) ?_
      exact k_zret (v := (1 : Int32)) (u := ()) hx hb hr hlocks hK hS eQ (by decide) hf hP hD dX10_isCar_15
theorem hd_X10_isOf : yX10_isOf.cls ≠ "java/lang/invoke/MethodHandle" ∧ yX10_isOf.cls ≠ "java/lang/invoke/VarHandle" ∧ (parseMethodDescriptor yX10_isOf.desc).map (fun d => d.parameters.length) = some 2 := by decide +kernel
set_option maxHeartbeats 4000000 in
set_option maxRecDepth 100000 in
theorem c_X10_isOf (l : Launch) (D : va_G) (cI cZ : ClassId) (sz : Nat) (p0 : Int32) (p1 : Int32) (z : Int32 × Unit) (hf : f_X10_isOf p0 p1 = some z) : Met l yX10_isOf wsX10_isOf rmX10_isOf (va_Pc [.int p0, .int p1] (wPr D cI cZ (([] : va_W)) sz)) (va_Qi (fun (r : Int32) (v : Unit) => (r, v) = z) (fun (v : Unit) t => wPo D cI cZ (va_A (([] : va_W)) sz) (([] : va_W)) t) (va_A (([] : va_W)) sz)) 0 0 (va_A (([] : va_W)) sz) := by
  refine k_enter (D := D) (cI := cI) (cZ := cZ) (wl := ([] : va_W)) (sz := sz) (av := [.int p0, .int p1]) (cc := cX10_isOf) (maxL := 2) (ret := (some .boolean)) (Qc := fun A => va_Qi (fun (r : Int32) (v : Unit) => (r, v) = z) (fun (v : Unit) t => wPo D cI cZ (A) (([] : va_W)) t) (A)) (by decide) rfl (Nat.le_of_ble_eq_true rfl) ?_
  intro p e s m below meth c ls A Q H locs eQ hx hb hr hml hts hown hlocks hK hP hD hS hA hE hl
  have hown : s.vm.findClass RX10 = some m.cls := hown
  have hl : lv_has ls 2 [(0, .int p0), (1, .int p1)] := hl
  rw [f_X10_isOf] at hf
  refine lv_iload_n hx hb dX10_isOf_0 rfl (lv_at hl 0 rfl) ?_
  refine lv_iload_n hx hb dX10_isOf_1 rfl (lv_at hl 1 rfl) ?_
  refine lv_ishr hx hb dX10_isOf_2 ?_
  refine lv_iconst (v := 1) hx hb dX10_isOf_3 (by decide) ?_
  refine lv_iand hx hb dX10_isOf_4 ?_
  refine lv_iconst (v := 1) hx hb dX10_isOf_5 (by decide) ?_
  refine lv_icmp_ne (tgt := 13) hx hb dX10_isOf_6 (by decide) (fun c1 => ?_) (fun c1 => ?_)
  · have hf := (if_neg c1).symm.trans hf
    refine lv_iconst (v := 0) hx hb dX10_isOf_13 (by decide) ?_
    exact k_zret (v := (0 : Int32)) (u := ()) hx hb hr hlocks hK hS eQ (by decide) hf hP hD dX10_isOf_14
  · have hf := (if_pos c1).symm.trans hf
    refine lv_iconst (v := 1) hx hb dX10_isOf_9 (by decide) ?_
    refine lv_goto (tgt := 14) hx hb dX10_isOf_10 (by decide) ?_
    exact k_zret (v := (1 : Int32)) (u := ()) hx hb hr hlocks hK hS eQ (by decide) hf hP hD dX10_isOf_14
theorem hd_X10_copyRow : yX10_copyRow.cls ≠ "java/lang/invoke/MethodHandle" ∧ yX10_copyRow.cls ≠ "java/lang/invoke/VarHandle" ∧ (parseMethodDescriptor yX10_copyRow.desc).map (fun d => d.parameters.length) = some 2 := by decide +kernel
set_option maxHeartbeats 4000000 in
set_option maxRecDepth 100000 in
theorem c_X10_copyRow (l : Launch) (D : va_G) (cI cZ : ClassId) (r00 : Nat) (r10 : Nat) (sz : Nat) (n_r0 : Nat) (n_r1 : Nat) (u_r0 : Fn) (u_r1 : Fn) (z : Fn) (hf : f_X10_copyRow n_r0 n_r1 u_r0 u_r1 = some z) : Met l yX10_copyRow wsX10_copyRow rmX10_copyRow (va_Pc [.ref r00, .ref r10] (wPr D cI cZ (cA cI r00 n_r0 u_r0 ++ (cA cI r10 n_r1 u_r1)) sz)) (va_Qv (fun (v : Fn) => v = z) (fun (v : Fn) t => wPo D cI cZ (va_A (cA cI r00 n_r0 u_r0 ++ (cA cI r10 n_r1 u_r1)) sz) (cA cI r00 n_r0 u_r0 ++ (cA cI r10 n_r1 v)) t) (va_A (cA cI r00 n_r0 u_r0 ++ (cA cI r10 n_r1 u_r1)) sz)) 0 0 (va_A (cA cI r00 n_r0 u_r0 ++ (cA cI r10 n_r1 u_r1)) sz) := by
  refine k_enter (D := D) (cI := cI) (cZ := cZ) (wl := cA cI r00 n_r0 u_r0 ++ (cA cI r10 n_r1 u_r1)) (sz := sz) (av := [.ref r00, .ref r10]) (cc := cX10_copyRow) (maxL := 2) (ret := none) (Qc := fun A => va_Qv (fun (v : Fn) => v = z) (fun (v : Fn) t => wPo D cI cZ (A) (cA cI r00 n_r0 u_r0 ++ (cA cI r10 n_r1 v)) t) (A)) (by decide) rfl (Nat.le_of_ble_eq_true rfl) ?_
  intro p e s m below meth c ls A Q H locs eQ hx hb hr hml hts hown hlocks hK hP hD hS hA hE hl
  have hown : s.vm.findClass RX10 = some m.cls := hown
  have hl : lv_has ls 2 [(0, .ref r00), (1, .ref r10)] := hl
  rw [f_X10_copyRow] at hf
  refine lv_aload_n hx hb dX10_copyRow_0 rfl (lv_at hl 0 rfl) ?_
  refine lv_iconst (v := 0) hx hb dX10_copyRow_1 (by decide) ?_
  refine lv_aload_n hx hb dX10_copyRow_2 rfl (lv_at hl 1 rfl) ?_
  refine lv_iconst (v := 0) hx hb dX10_copyRow_3 (by decide) ?_
  refine lv_aload_n hx hb dX10_copyRow_4 rfl (lv_at hl 0 rfl) ?_
  refine va_alen hx hb hK hP 0 0 rfl rfl (v := (Int32.ofNat n_r0)) rfl dX10_copyRow_5 ?_
  refine lv_aload_n hx hb dX10_copyRow_6 rfl (lv_at hl 1 rfl) ?_
  refine va_alen hx hb hK hP 1 0 rfl rfl (v := (Int32.ofNat n_r1)) rfl dX10_copyRow_7 ?_
  refine va_mmin hx hb (hml.trans hl.1.symm) hown (hts (.methodLink RX10 257 Lib.Math.min.name) (List.mem_of_getElem? (i := 1) rfl)) (hts (.static Lib.Math.min.name) (List.mem_of_getElem? (i := 2) rfl)) (hts (.initialized "java/lang/Math") (List.mem_of_getElem? (i := 3) rfl)) (hts (.code Lib.Math.min.name Lib.Math.min.code 2 (some .int)) (List.mem_of_getElem? (i := 4) rfl)) (Nat.le_of_ble_eq_true rfl) (Nat.le_of_ble_eq_true rfl) (Nat.zero_le _) (Nat.zero_le _) dX10_copyRow_8 ?_
  by_cases c1 : (if (Int32.ofNat n_r1) < (Int32.ofNat n_r0) then (Int32.ofNat n_r1) else (Int32.ofNat n_r0)) < 0 ∨ n_r0 < (if (Int32.ofNat n_r1) < (Int32.ofNat n_r0) then (Int32.ofNat n_r1) else (Int32.ofNat n_r0)).toNatClampNeg ∨ n_r1 < (if (Int32.ofNat n_r1) < (Int32.ofNat n_r0) then (Int32.ofNat n_r1) else (Int32.ofNat n_r0)).toNatClampNeg
  · have hf := (if_pos c1).symm.trans hf
    cases hf
  have hf := (if_neg c1).symm.trans hf
  have hc1 : ¬ (if (Int32.ofNat n_r1) < (Int32.ofNat n_r0) then (Int32.ofNat n_r1) else (Int32.ofNat n_r0)) < 0 := fun h => c1 (Or.inl h)
  have hc2 : (0 : Int32).toNatClampNeg + (if (Int32.ofNat n_r1) < (Int32.ofNat n_r0) then (Int32.ofNat n_r1) else (Int32.ofNat n_r0)).toNatClampNeg ≤ n_r0 := by show 0 + _ ≤ _; rw [Nat.zero_add]; exact Nat.not_lt.mp fun h => c1 (Or.inr (Or.inl h))
  have hc3 : (0 : Int32).toNatClampNeg + (if (Int32.ofNat n_r1) < (Int32.ofNat n_r0) then (Int32.ofNat n_r1) else (Int32.ofNat n_r0)).toNatClampNeg ≤ n_r1 := by show 0 + _ ≤ _; rw [Nat.zero_add]; exact Nat.not_lt.mp fun h => c1 (Or.inr (Or.inr h))
  refine va_copyi hx hb (hml.trans hl.1.symm) hown (hts (.methodLink RX10 262 arraycopyName) (List.mem_of_getElem? (i := 5) rfl)) (hts (.native arraycopyName) (List.mem_of_getElem? (i := 6) rfl)) (hts (.static arraycopyName) (List.mem_of_getElem? (i := 7) rfl)) (hts (.initialized "java/lang/System") (List.mem_of_getElem? (i := 8) rfl)) hK hP hD hS 0 1 0 0 rfl rfl rfl rfl rfl (by decide) (by decide) hc1 hc2 hc3 (fun i _ => rfl) (Nat.le_of_ble_eq_true rfl) (Nat.le_of_ble_eq_true rfl) dX10_copyRow_11 (fun H locs hP hD hS => ?_)
  have hP : va_P D vwCl (cA cI r00 n_r0 u_r0 ++ (cA cI r10 n_r1 (va_cpy u_r0 u_r1 0 0 (if (Int32.ofNat n_r1) < (Int32.ofNat n_r0) then (Int32.ofNat n_r1) else (Int32.ofNat n_r0)).toNatClampNeg))) H := hP
  have hD : va_D A (cA cI r00 n_r0 u_r0 ++ (cA cI r10 n_r1 (va_cpy u_r0 u_r1 0 0 (if (Int32.ofNat n_r1) < (Int32.ofNat n_r0) then (Int32.ofNat n_r1) else (Int32.ofNat n_r0)).toNatClampNeg))) := hD
  exact k_vret (u := (va_cpy u_r0 u_r1 0 0 (if (Int32.ofNat n_r1) < (Int32.ofNat n_r0) then (Int32.ofNat n_r1) else (Int32.ofNat n_r0)).toNatClampNeg)) hx hb hr hlocks hK hS eQ hf hP hD dX10_copyRow_14
theorem hd_X10_greatestDivisor : yX10_greatestDivisor.cls ≠ "java/lang/invoke/MethodHandle" ∧ yX10_greatestDivisor.cls ≠ "java/lang/invoke/VarHandle" ∧ (parseMethodDescriptor yX10_greatestDivisor.desc).map (fun d => d.parameters.length) = some 2 := by decide +kernel
set_option maxHeartbeats 4000000 in
set_option maxRecDepth 100000 in
theorem c_X10_greatestDivisor (l : Launch) (D : va_G) (cI cZ : ClassId) (sz : Nat) (p0 : Int64) (p2 : Int64) (z : Int64 × Unit) (hf : f_X10_greatestDivisor p0 p2 = some z) : Met l yX10_greatestDivisor wsX10_greatestDivisor rmX10_greatestDivisor (va_Pc [.long p0, .long p2] (wPr D cI cZ (([] : va_W)) sz)) (va_Ql (fun (r : Int64) (v : Unit) => (r, v) = z) (fun (v : Unit) t => wPo D cI cZ (va_A (([] : va_W)) sz) (([] : va_W)) t) (va_A (([] : va_W)) sz)) 0 0 (va_A (([] : va_W)) sz) := by
  refine k_enter (D := D) (cI := cI) (cZ := cZ) (wl := ([] : va_W)) (sz := sz) (av := [.long p0, .long p2]) (cc := cX10_greatestDivisor) (maxL := 11) (ret := (some .long)) (Qc := fun A => va_Ql (fun (r : Int64) (v : Unit) => (r, v) = z) (fun (v : Unit) t => wPo D cI cZ (A) (([] : va_W)) t) (A)) (by decide) rfl (Nat.le_of_ble_eq_true rfl) ?_
  intro p e s m below meth c ls A Q H locs eQ hx hb hr hml hts hown hlocks hK hP hD hS hA hE hl
  have hown : s.vm.findClass RX10 = some m.cls := hown
  have hl : lv_has ls 11 [(0, .long p0), (2, .long p2)] := hl
  have hL9 : ∀ (n : Nat), ∀ (v4 : Int64) (v6 : Int64) (v8 : Int32) (H : Heap) (locs : List Loc) (ls : Array Slot), lv_has ls 11 [(4, .long v4), (6, .long v6), (8, .int v8)] → va_P D vwCl (([] : va_W)) H → va_D A (([] : va_W)) → va_S A s.heap H locs → f_X10_greatestDivisor_L9 n v4 v6 v8 = some z → W p l e (headSpec wsX10_greatestDivisor rmX10_greatestDivisor).room s m ([.long p0, .long p2] : List Value).toArray below meth c H locs 0 0 Q (F0 m 9 ls []) := by
    intro n
    induction n with
    | zero =>
      intro v4 v6 v8 H locs ls hl hP hD hS hf
      exact absurd (show (none : Option (Int64 × Unit)) = some z from hf) (fun h => by cases h)
    | succ n ih =>
      intro v4 v6 v8 H locs ls hl hP hD hS hf
      rw [f_X10_greatestDivisor_L9] at hf
      refine lv_iload hx hb dX10_greatestDivisor_9 (lv_at hl 2 rfl) ?_
      refine lv_sipush (v := 128) hx hb dX10_greatestDivisor_11 (by decide) ?_
      refine lv_icmp_ge (tgt := 45) hx hb dX10_greatestDivisor_14 (by decide) (fun c1 => ?_) (fun c1 => ?_)
      · have hf := (if_pos c1).symm.trans hf
        refine lv_lload hx hb dX10_greatestDivisor_45 (lv_at hl 0 rfl) ?_
        exact k_lret (v := v4) (u := ()) hx hb hr hlocks hK hS eQ hf hP hD dX10_greatestDivisor_47
      · have hf := (if_neg c1).symm.trans hf
        refine lv_lload hx hb dX10_greatestDivisor_17 (lv_at hl 1 rfl) ?_
        refine lv_lconst (v := 0) hx hb dX10_greatestDivisor_19 (by decide) ?_
        refine W.lcmp hx hb dX10_greatestDivisor_20 ?_
        refine lv_if_eq (tgt := 45) hx hb dX10_greatestDivisor_21 (by decide) (fun c2 => ?_) (fun c2 => ?_)
        · have hf := (if_pos c2).symm.trans hf
          refine lv_lload hx hb dX10_greatestDivisor_45 (lv_at hl 0 rfl) ?_
          exact k_lret (v := v4) (u := ()) hx hb hr hlocks hK hS eQ hf hP hD dX10_greatestDivisor_47
        · have hf := (if_neg c2).symm.trans hf
          refine lv_lload hx hb dX10_greatestDivisor_24 (lv_at hl 0 rfl) ?_
          refine lv_lload hx hb dX10_greatestDivisor_26 (lv_at hl 1 rfl) ?_
          by_cases c3 : v6 = 0
          · have hf := (if_pos c3).symm.trans hf
            cases hf
          have hf := (if_neg c3).symm.trans hf
          refine lv_lrem hx hb dX10_greatestDivisor_28 c3 ?_
          refine lv_lstore (lv' := [(9, .long (v4 - v4 / v6 * v6)), (4, .long v4), (6, .long v6), (8, .int v8)]) hx hb dX10_greatestDivisor_29 hl (by decide) rfl (fun ls hl => ?_)
          refine lv_lload hx hb dX10_greatestDivisor_31 (lv_at hl 2 rfl) ?_
          refine lv_lstore (lv' := [(4, .long v6), (9, .long (v4 - v4 / v6 * v6)), (6, .long v6), (8, .int v8)]) hx hb dX10_greatestDivisor_33 hl (by decide) rfl (fun ls hl => ?_)
          refine lv_lload hx hb dX10_greatestDivisor_35 (lv_at hl 1 rfl) ?_
          refine lv_lstore (lv' := [(6, .long (v4 - v4 / v6 * v6)), (4, .long v6), (9, .long (v4 - v4 / v6 * v6)), (8, .int v8)]) hx hb dX10_greatestDivisor_37 hl (by decide) rfl (fun ls hl => ?_)
          refine lv_iinc (v := (v8 + (1 : Int32))) (lv' := [(8, .int (v8 + (1 : Int32))), (6, .long (v4 - v4 / v6 * v6)), (4, .long v6), (9, .long (v4 - v4 / v6 * v6))]) hx hb dX10_greatestDivisor_39 hl (k := 3) rfl rfl (by decide) rfl (fun ls hl => ?_)
          refine lv_goto (tgt := 9) hx hb dX10_greatestDivisor_42 (by decide) ?_
          exact ih v6 (v4 - v4 / v6 * v6) (v8 + (1 : Int32)) _ _ ls (lv_sub hl [2, 1, 0] rfl) hP hD hS hf
  rw [f_X10_greatestDivisor] at hf
  refine lv_lload_n hx hb dX10_greatestDivisor_0 rfl (lv_at hl 0 rfl) ?_
  refine lv_lstore (lv' := [(4, .long p0), (0, .long p0), (2, .long p2)]) hx hb dX10_greatestDivisor_1 hl (by decide) rfl (fun ls hl => ?_)
  refine lv_lload_n hx hb dX10_greatestDivisor_3 rfl (lv_at hl 2 rfl) ?_
  refine lv_lstore (lv' := [(6, .long p2), (4, .long p0), (0, .long p0), (2, .long p2)]) hx hb dX10_greatestDivisor_4 hl (by decide) rfl (fun ls hl => ?_)
  refine lv_iconst (v := 0) hx hb dX10_greatestDivisor_6 (by decide) ?_
  refine lv_istore (lv' := [(8, .int (0 : Int32)), (6, .long p2), (4, .long p0), (0, .long p0), (2, .long p2)]) hx hb dX10_greatestDivisor_7 hl (by decide) rfl (fun ls hl => ?_)
  exact hL9 oF p0 p2 (0 : Int32) _ _ ls (lv_sub hl [2, 1, 0] rfl) hP hD hS hf
theorem hd_J9_floorMod_7cf53 : yJ9_floorMod_7cf53.cls ≠ "java/lang/invoke/MethodHandle" ∧ yJ9_floorMod_7cf53.cls ≠ "java/lang/invoke/VarHandle" ∧ (parseMethodDescriptor yJ9_floorMod_7cf53.desc).map (fun d => d.parameters.length) = some 2 := by decide +kernel
set_option maxHeartbeats 4000000 in
set_option maxRecDepth 100000 in
theorem c_J9_floorMod_7cf53 (l : Launch) (D : va_G) (cI cZ : ClassId) (sz : Nat) (p0 : Int32) (p1 : Int32) (z : Int32 × Unit) (hf : f_J9_floorMod_7cf53 p0 p1 = some z) : Met l yJ9_floorMod_7cf53 wsJ9_floorMod_7cf53 rmJ9_floorMod_7cf53 (va_Pc [.int p0, .int p1] (wPr D cI cZ (([] : va_W)) sz)) (va_Qi (fun (r : Int32) (v : Unit) => (r, v) = z) (fun (v : Unit) t => wPo D cI cZ (va_A (([] : va_W)) sz) (([] : va_W)) t) (va_A (([] : va_W)) sz)) 0 0 (va_A (([] : va_W)) sz) := by
  refine k_enterF (D := D) (cI := cI) (cZ := cZ) (wl := ([] : va_W)) (sz := sz) (av := [.int p0, .int p1]) (cc := cJ9_floorMod_7cf53) (maxL := 3) (ret := (some .int)) (Qc := fun A => va_Qi (fun (r : Int32) (v : Unit) => (r, v) = z) (fun (v : Unit) t => wPo D cI cZ (A) (([] : va_W)) t) (A)) (by decide) rfl (Nat.le_of_ble_eq_true rfl) ?_
  intro p e s m below meth c ls A Q H locs eQ hx hb hr hml hts hown hlocks hK hP hD hS hA hE hl
  have hown : s.vm.findClass RJ9 = some m.cls := hown
  have hl : lv_has ls 3 [(0, .int p0), (1, .int p1)] := hl
  rw [f_J9_floorMod_7cf53] at hf
  refine lv_iload_n hx hb dJ9_floorMod_7cf53_0 rfl (lv_at hl 0 rfl) ?_
  refine lv_iload_n hx hb dJ9_floorMod_7cf53_1 rfl (lv_at hl 1 rfl) ?_
  by_cases c1 : p1 = 0
  · have hf := (if_pos c1).symm.trans hf
    cases hf
  have hf := (if_neg c1).symm.trans hf
  refine lv_irem hx hb dJ9_floorMod_7cf53_2 c1 ?_
  refine lv_istore_n (lv' := [(2, .int (p0 - p0 / p1 * p1)), (0, .int p0), (1, .int p1)]) hx hb dJ9_floorMod_7cf53_3 rfl hl (by decide) rfl (fun ls hl => ?_)
  refine lv_iload_n hx hb dJ9_floorMod_7cf53_4 rfl (lv_at hl 1 rfl) ?_
  refine lv_iload_n hx hb dJ9_floorMod_7cf53_5 rfl (lv_at hl 2 rfl) ?_
  refine lv_ixor hx hb dJ9_floorMod_7cf53_6 ?_
  refine lv_if_ge (tgt := 18) hx hb dJ9_floorMod_7cf53_7 (by decide) (fun c2 => ?_) (fun c2 => ?_)
  · have hf := (if_pos c2).symm.trans hf
    refine lv_iload_n hx hb dJ9_floorMod_7cf53_18 rfl (lv_at hl 0 rfl) ?_
    exact k_iret (v := (p0 - p0 / p1 * p1)) (u := ()) hx hb hr hlocks hK hS eQ hf hP hD dJ9_floorMod_7cf53_19
  · have hf := (if_neg c2).symm.trans hf
    refine lv_iload_n hx hb dJ9_floorMod_7cf53_10 rfl (lv_at hl 0 rfl) ?_
    refine lv_if_eq (tgt := 18) hx hb dJ9_floorMod_7cf53_11 (by decide) (fun c3 => ?_) (fun c3 => ?_)
    · have hf := (if_pos c3).symm.trans hf
      refine lv_iload_n hx hb dJ9_floorMod_7cf53_18 rfl (lv_at hl 0 rfl) ?_
      exact k_iret (v := (p0 - p0 / p1 * p1)) (u := ()) hx hb hr hlocks hK hS eQ hf hP hD dJ9_floorMod_7cf53_19
    · have hf := (if_neg c3).symm.trans hf
      refine lv_iload_n hx hb dJ9_floorMod_7cf53_14 rfl (lv_at hl 0 rfl) ?_
      refine lv_iload_n hx hb dJ9_floorMod_7cf53_15 rfl (lv_at hl 2 rfl) ?_
      refine lv_iadd hx hb dJ9_floorMod_7cf53_16 ?_
      exact k_iret (v := ((p0 - p0 / p1 * p1) + p1)) (u := ()) hx hb hr hlocks hK hS eQ hf hP hD dJ9_floorMod_7cf53_17
theorem hd_J7_fill_53178 : yJ7_fill_53178.cls ≠ "java/lang/invoke/MethodHandle" ∧ yJ7_fill_53178.cls ≠ "java/lang/invoke/VarHandle" ∧ (parseMethodDescriptor yJ7_fill_53178.desc).map (fun d => d.parameters.length) = some 2 := by decide +kernel
set_option maxHeartbeats 4000000 in
set_option maxRecDepth 100000 in
theorem c_J7_fill_53178 (l : Launch) (D : va_G) (cI cZ : ClassId) (r00 : Nat) (sz : Nat) (n_r0 : Nat) (u_r0 : Fn) (p1 : Int32) (z : Fn) (hf : f_J7_fill_53178 n_r0 u_r0 p1 = some z) : Met l yJ7_fill_53178 wsJ7_fill_53178 rmJ7_fill_53178 (va_Pc [.ref r00, .int p1] (wPr D cI cZ (cA cI r00 n_r0 u_r0) sz)) (va_Qv (fun (v : Fn) => v = z) (fun (v : Fn) t => wPo D cI cZ (va_A (cA cI r00 n_r0 u_r0) sz) (cA cI r00 n_r0 v) t) (va_A (cA cI r00 n_r0 u_r0) sz)) 0 0 (va_A (cA cI r00 n_r0 u_r0) sz) := by
  refine k_enter (D := D) (cI := cI) (cZ := cZ) (wl := cA cI r00 n_r0 u_r0) (sz := sz) (av := [.ref r00, .int p1]) (cc := cJ7_fill_53178) (maxL := 4) (ret := none) (Qc := fun A => va_Qv (fun (v : Fn) => v = z) (fun (v : Fn) t => wPo D cI cZ (A) (cA cI r00 n_r0 v) t) (A)) (by decide) rfl (Nat.le_of_ble_eq_true rfl) ?_
  intro p e s m below meth c ls A Q H locs eQ hx hb hr hml hts hown hlocks hK hP hD hS hA hE hl
  have hown : s.vm.findClass RJ7 = some m.cls := hown
  have hl : lv_has ls 4 [(0, .ref r00), (1, .int p1)] := hl
  have hL5 : ∀ (n : Nat), ∀ (v1 : Int32) (v2 : Int32) (v3 : Int32) (u_r0 : Fn) (H : Heap) (locs : List Loc) (ls : Array Slot), lv_has ls 4 [(0, .ref r00), (1, .int v1), (2, .int v2), (3, .int v3)] → va_P D vwCl (cA cI r00 n_r0 u_r0) H → va_D A (cA cI r00 n_r0 u_r0) → va_S A s.heap H locs → f_J7_fill_53178_L5 n_r0 n v1 v2 v3 u_r0 = some z → W p l e (headSpec wsJ7_fill_53178 rmJ7_fill_53178).room s m ([.ref r00, .int p1] : List Value).toArray below meth c H locs 0 0 Q (F0 m 5 ls []) := by
    intro n
    induction n with
    | zero =>
      intro v1 v2 v3 u_r0 H locs ls hl hP hD hS hf
      exact absurd (show (none : Option (Fn)) = some z from hf) (fun h => by cases h)
    | succ n ih =>
      intro v1 v2 v3 u_r0 H locs ls hl hP hD hS hf
      rw [f_J7_fill_53178_L5] at hf
      refine lv_iload_n hx hb dJ7_fill_53178_5 rfl (lv_at hl 2 rfl) ?_
      refine lv_iload_n hx hb dJ7_fill_53178_6 rfl (lv_at hl 3 rfl) ?_
      refine lv_icmp_ge (tgt := 20) hx hb dJ7_fill_53178_7 (by decide) (fun c1 => ?_) (fun c1 => ?_)
      · have hf := (if_pos c1).symm.trans hf
        exact k_vret (u := u_r0) hx hb hr hlocks hK hS eQ hf hP hD dJ7_fill_53178_20
      · have hf := (if_neg c1).symm.trans hf
        refine lv_aload_n hx hb dJ7_fill_53178_10 rfl (lv_at hl 0 rfl) ?_
        refine lv_iload_n hx hb dJ7_fill_53178_11 rfl (lv_at hl 2 rfl) ?_
        refine lv_iload_n hx hb dJ7_fill_53178_12 rfl (lv_at hl 1 rfl) ?_
        by_cases c2 : v2 < 0 ∨ n_r0 ≤ v2.toNatClampNeg
        · have hf := (if_pos c2).symm.trans hf
          cases hf
        have hf := (if_neg c2).symm.trans hf
        refine va_iast hx hb hK hP hD hS 0 0 rfl rfl (show vp_in v2 n_r0 from c2) dJ7_fill_53178_13 (fun H locs hP hD hS => ?_)
        have hP : va_P D vwCl (cA cI r00 n_r0 (upd u_r0 v2.toNatClampNeg v1)) H := hP
        have hD : va_D A (cA cI r00 n_r0 (upd u_r0 v2.toNatClampNeg v1)) := hD
        refine lv_iinc (v := (v2 + (1 : Int32))) (lv' := [(2, .int (v2 + (1 : Int32))), (0, .ref r00), (1, .int v1), (3, .int v3)]) hx hb dJ7_fill_53178_14 hl (k := 2) rfl rfl (by decide) rfl (fun ls hl => ?_)
        refine lv_goto (tgt := 5) hx hb dJ7_fill_53178_17 (by decide) ?_
        exact ih v1 (v2 + (1 : Int32)) v3 (upd u_r0 v2.toNatClampNeg v1) _ _ ls (lv_sub hl [1, 2, 0, 3] rfl) hP hD hS hf
  rw [f_J7_fill_53178] at hf
  refine lv_iconst (v := 0) hx hb dJ7_fill_53178_0 (by decide) ?_
  refine lv_istore_n (lv' := [(2, .int (0 : Int32)), (0, .ref r00), (1, .int p1)]) hx hb dJ7_fill_53178_1 rfl hl (by decide) rfl (fun ls hl => ?_)
  refine lv_aload_n hx hb dJ7_fill_53178_2 rfl (lv_at hl 1 rfl) ?_
  refine va_alen hx hb hK hP 0 0 rfl rfl (v := (Int32.ofNat n_r0)) rfl dJ7_fill_53178_3 ?_
  refine lv_istore_n (lv' := [(3, .int (Int32.ofNat n_r0)), (2, .int (0 : Int32)), (0, .ref r00), (1, .int p1)]) hx hb dJ7_fill_53178_4 rfl hl (by decide) rfl (fun ls hl => ?_)
  exact hL5 oF p1 (0 : Int32) (Int32.ofNat n_r0) u_r0 _ _ ls (lv_sub hl [2, 3, 1, 0] rfl) hP hD hS hf
theorem hd_J6_bitCount_0f7a4 : yJ6_bitCount_0f7a4.cls ≠ "java/lang/invoke/MethodHandle" ∧ yJ6_bitCount_0f7a4.cls ≠ "java/lang/invoke/VarHandle" ∧ (parseMethodDescriptor yJ6_bitCount_0f7a4.desc).map (fun d => d.parameters.length) = some 1 := by decide +kernel
set_option maxHeartbeats 4000000 in
set_option maxRecDepth 100000 in
theorem c_J6_bitCount_0f7a4 (l : Launch) (D : va_G) (cI cZ : ClassId) (sz : Nat) (p0 : Int32) (z : Int32 × Unit) (hf : f_J6_bitCount_0f7a4 p0 = some z) : Met l yJ6_bitCount_0f7a4 wsJ6_bitCount_0f7a4 rmJ6_bitCount_0f7a4 (va_Pc [.int p0] (wPr D cI cZ (([] : va_W)) sz)) (va_Qi (fun (r : Int32) (v : Unit) => (r, v) = z) (fun (v : Unit) t => wPo D cI cZ (va_A (([] : va_W)) sz) (([] : va_W)) t) (va_A (([] : va_W)) sz)) 0 0 (va_A (([] : va_W)) sz) := by
  refine k_enter (D := D) (cI := cI) (cZ := cZ) (wl := ([] : va_W)) (sz := sz) (av := [.int p0]) (cc := cJ6_bitCount_0f7a4) (maxL := 1) (ret := (some .int)) (Qc := fun A => va_Qi (fun (r : Int32) (v : Unit) => (r, v) = z) (fun (v : Unit) t => wPo D cI cZ (A) (([] : va_W)) t) (A)) (by decide) rfl (Nat.le_of_ble_eq_true rfl) ?_
  intro p e s m below meth c ls A Q H locs eQ hx hb hr hml hts hown hlocks hK hP hD hS hA hE hl
  have hown : s.vm.findClass RJ6 = some m.cls := hown
  have hl : lv_has ls 1 [(0, .int p0)] := hl
  rw [f_J6_bitCount_0f7a4] at hf
  refine lv_iload_n hx hb dJ6_bitCount_0f7a4_0 rfl (lv_at hl 0 rfl) ?_
  refine lv_iload_n hx hb dJ6_bitCount_0f7a4_1 rfl (lv_at hl 0 rfl) ?_
  refine lv_iconst (v := 1) hx hb dJ6_bitCount_0f7a4_2 (by decide) ?_
  refine lv_iushr hx hb dJ6_bitCount_0f7a4_3 rfl ?_
  refine lv_ldcw hx hb hown (hts (.constant RJ6 265 (1431655765)) (List.mem_of_getElem? (i := 1) rfl)) dJ6_bitCount_0f7a4_4 ?_
  refine lv_iand hx hb dJ6_bitCount_0f7a4_7 ?_
  refine lv_isub hx hb dJ6_bitCount_0f7a4_8 ?_
  refine lv_istore_n (lv' := [(0, .int (p0 - ((((p0).toUInt32 >>> (((1 : Int32)).toUInt32 &&& Int32.toUInt32 31)).toInt32) &&& (1431655765 : Int32))))]) hx hb dJ6_bitCount_0f7a4_9 rfl hl (by decide) rfl (fun ls hl => ?_)
  refine lv_iload_n hx hb dJ6_bitCount_0f7a4_10 rfl (lv_at hl 0 rfl) ?_
  refine lv_ldcw hx hb hown (hts (.constant RJ6 266 (858993459)) (List.mem_of_getElem? (i := 2) rfl)) dJ6_bitCount_0f7a4_11 ?_
  refine lv_iand hx hb dJ6_bitCount_0f7a4_14 ?_
  refine lv_iload_n hx hb dJ6_bitCount_0f7a4_15 rfl (lv_at hl 0 rfl) ?_
  refine lv_iconst (v := 2) hx hb dJ6_bitCount_0f7a4_16 (by decide) ?_
  refine lv_iushr hx hb dJ6_bitCount_0f7a4_17 rfl ?_
  refine lv_ldcw hx hb hown (hts (.constant RJ6 266 (858993459)) (List.mem_of_getElem? (i := 2) rfl)) dJ6_bitCount_0f7a4_18 ?_
  refine lv_iand hx hb dJ6_bitCount_0f7a4_21 ?_
  refine lv_iadd hx hb dJ6_bitCount_0f7a4_22 ?_
  refine lv_istore_n (lv' := [(0, .int (((p0 - ((((p0).toUInt32 >>> (((1 : Int32)).toUInt32 &&& Int32.toUInt32 31)).toInt32) &&& (1431655765 : Int32))) &&& (858993459 : Int32)) + (((((p0 - ((((p0).toUInt32 >>> (((1 : Int32)).toUInt32 &&& Int32.toUInt32 31)).toInt32) &&& (1431655765 : Int32)))).toUInt32 >>> (((2 : Int32)).toUInt32 &&& Int32.toUInt32 31)).toInt32) &&& (858993459 : Int32))))]) hx hb dJ6_bitCount_0f7a4_23 rfl hl (by decide) rfl (fun ls hl => ?_)
  refine lv_iload_n hx hb dJ6_bitCount_0f7a4_24 rfl (lv_at hl 0 rfl) ?_
  refine lv_iload_n hx hb dJ6_bitCount_0f7a4_25 rfl (lv_at hl 0 rfl) ?_
  refine lv_iconst (v := 4) hx hb dJ6_bitCount_0f7a4_26 (by decide) ?_
  refine lv_iushr hx hb dJ6_bitCount_0f7a4_27 rfl ?_
  refine lv_iadd hx hb dJ6_bitCount_0f7a4_28 ?_
  refine lv_ldcw hx hb hown (hts (.constant RJ6 267 (252645135)) (List.mem_of_getElem? (i := 3) rfl)) dJ6_bitCount_0f7a4_29 ?_
  refine lv_iand hx hb dJ6_bitCount_0f7a4_32 ?_
  refine lv_istore_n (lv' := [(0, .int (((((p0 - ((((p0).toUInt32 >>> (((1 : Int32)).toUInt32 &&& Int32.toUInt32 31)).toInt32) &&& (1431655765 : Int32))) &&& (858993459 : Int32)) + (((((p0 - ((((p0).toUInt32 >>> (((1 : Int32)).toUInt32 &&& Int32.toUInt32 31)).toInt32) &&& (1431655765 : Int32)))).toUInt32 >>> (((2 : Int32)).toUInt32 &&& Int32.toUInt32 31)).toInt32) &&& (858993459 : Int32))) + ((((((p0 - ((((p0).toUInt32 >>> (((1 : Int32)).toUInt32 &&& Int32.toUInt32 31)).toInt32) &&& (1431655765 : Int32))) &&& (858993459 : Int32)) + (((((p0 - ((((p0).toUInt32 >>> (((1 : Int32)).toUInt32 &&& Int32.toUInt32 31)).toInt32) &&& (1431655765 : Int32)))).toUInt32 >>> (((2 : Int32)).toUInt32 &&& Int32.toUInt32 31)).toInt32) &&& (858993459 : Int32)))).toUInt32 >>> (((4 : Int32)).toUInt32 &&& Int32.toUInt32 31)).toInt32)) &&& (252645135 : Int32)))]) hx hb dJ6_bitCount_0f7a4_33 rfl hl (by decide) rfl (fun ls hl => ?_)
  refine lv_iload_n hx hb dJ6_bitCount_0f7a4_34 rfl (lv_at hl 0 rfl) ?_
  refine lv_iload_n hx hb dJ6_bitCount_0f7a4_35 rfl (lv_at hl 0 rfl) ?_
  refine lv_bipush (v := 8) hx hb dJ6_bitCount_0f7a4_36 (by decide) ?_
  refine lv_iushr hx hb dJ6_bitCount_0f7a4_38 rfl ?_
  refine lv_iadd hx hb dJ6_bitCount_0f7a4_39 ?_
  refine lv_istore_n (lv' := [(0, .int ((((((p0 - ((((p0).toUInt32 >>> (((1 : Int32)).toUInt32 &&& Int32.toUInt32 31)).toInt32) &&& (1431655765 : Int32))) &&& (858993459 : Int32)) + (((((p0 - ((((p0).toUInt32 >>> (((1 : Int32)).toUInt32 &&& Int32.toUInt32 31)).toInt32) &&& (1431655765 : Int32)))).toUInt32 >>> (((2 : Int32)).toUInt32 &&& Int32.toUInt32 31)).toInt32) &&& (858993459 : Int32))) + ((((((p0 - ((((p0).toUInt32 >>> (((1 : Int32)).toUInt32 &&& Int32.toUInt32 31)).toInt32) &&& (1431655765 : Int32))) &&& (858993459 : Int32)) + (((((p0 - ((((p0).toUInt32 >>> (((1 : Int32)).toUInt32 &&& Int32.toUInt32 31)).toInt32) &&& (1431655765 : Int32)))).toUInt32 >>> (((2 : Int32)).toUInt32 &&& Int32.toUInt32 31)).toInt32) &&& (858993459 : Int32)))).toUInt32 >>> (((4 : Int32)).toUInt32 &&& Int32.toUInt32 31)).toInt32)) &&& (252645135 : Int32)) + ((((((((p0 - ((((p0).toUInt32 >>> (((1 : Int32)).toUInt32 &&& Int32.toUInt32 31)).toInt32) &&& (1431655765 : Int32))) &&& (858993459 : Int32)) + (((((p0 - ((((p0).toUInt32 >>> (((1 : Int32)).toUInt32 &&& Int32.toUInt32 31)).toInt32) &&& (1431655765 : Int32)))).toUInt32 >>> (((2 : Int32)).toUInt32 &&& Int32.toUInt32 31)).toInt32) &&& (858993459 : Int32))) + ((((((p0 - ((((p0).toUInt32 >>> (((1 : Int32)).toUInt32 &&& Int32.toUInt32 31)).toInt32) &&& (1431655765 : Int32))) &&& (858993459 : Int32)) + (((((p0 - ((((p0).toUInt32 >>> (((1 : Int32)).toUInt32 &&& Int32.toUInt32 31)).toInt32) &&& (1431655765 : Int32)))).toUInt32 >>> (((2 : Int32)).toUInt32 &&& Int32.toUInt32 31)).toInt32) &&& (858993459 : Int32)))).toUInt32 >>> (((4 : Int32)).toUInt32 &&& Int32.toUInt32 31)).toInt32)) &&& (252645135 : Int32))).toUInt32 >>> (((8 : Int32)).toUInt32 &&& Int32.toUInt32 31)).toInt32)))]) hx hb dJ6_bitCount_0f7a4_40 rfl hl (by decide) rfl (fun ls hl => ?_)
  refine lv_iload_n hx hb dJ6_bitCount_0f7a4_41 rfl (lv_at hl 0 rfl) ?_
  refine lv_iload_n hx hb dJ6_bitCount_0f7a4_42 rfl (lv_at hl 0 rfl) ?_
  refine lv_bipush (v := 16) hx hb dJ6_bitCount_0f7a4_43 (by decide) ?_
  refine lv_iushr hx hb dJ6_bitCount_0f7a4_45 rfl ?_
  refine lv_iadd hx hb dJ6_bitCount_0f7a4_46 ?_
  refine lv_istore_n (lv' := [(0, .int (((((((p0 - ((((p0).toUInt32 >>> (((1 : Int32)).toUInt32 &&& Int32.toUInt32 31)).toInt32) &&& (1431655765 : Int32))) &&& (858993459 : Int32)) + (((((p0 - ((((p0).toUInt32 >>> (((1 : Int32)).toUInt32 &&& Int32.toUInt32 31)).toInt32) &&& (1431655765 : Int32)))).toUInt32 >>> (((2 : Int32)).toUInt32 &&& Int32.toUInt32 31)).toInt32) &&& (858993459 : Int32))) + ((((((p0 - ((((p0).toUInt32 >>> (((1 : Int32)).toUInt32 &&& Int32.toUInt32 31)).toInt32) &&& (1431655765 : Int32))) &&& (858993459 : Int32)) + (((((p0 - ((((p0).toUInt32 >>> (((1 : Int32)).toUInt32 &&& Int32.toUInt32 31)).toInt32) &&& (1431655765 : Int32)))).toUInt32 >>> (((2 : Int32)).toUInt32 &&& Int32.toUInt32 31)).toInt32) &&& (858993459 : Int32)))).toUInt32 >>> (((4 : Int32)).toUInt32 &&& Int32.toUInt32 31)).toInt32)) &&& (252645135 : Int32)) + ((((((((p0 - ((((p0).toUInt32 >>> (((1 : Int32)).toUInt32 &&& Int32.toUInt32 31)).toInt32) &&& (1431655765 : Int32))) &&& (858993459 : Int32)) + (((((p0 - ((((p0).toUInt32 >>> (((1 : Int32)).toUInt32 &&& Int32.toUInt32 31)).toInt32) &&& (1431655765 : Int32)))).toUInt32 >>> (((2 : Int32)).toUInt32 &&& Int32.toUInt32 31)).toInt32) &&& (858993459 : Int32))) + ((((((p0 - ((((p0).toUInt32 >>> (((1 : Int32)).toUInt32 &&& Int32.toUInt32 31)).toInt32) &&& (1431655765 : Int32))) &&& (858993459 : Int32)) + (((((p0 - ((((p0).toUInt32 >>> (((1 : Int32)).toUInt32 &&& Int32.toUInt32 31)).toInt32) &&& (1431655765 : Int32)))).toUInt32 >>> (((2 : Int32)).toUInt32 &&& Int32.toUInt32 31)).toInt32) &&& (858993459 : Int32)))).toUInt32 >>> (((4 : Int32)).toUInt32 &&& Int32.toUInt32 31)).toInt32)) &&& (252645135 : Int32))).toUInt32 >>> (((8 : Int32)).toUInt32 &&& Int32.toUInt32 31)).toInt32)) + (((((((((p0 - ((((p0).toUInt32 >>> (((1 : Int32)).toUInt32 &&& Int32.toUInt32 31)).toInt32) &&& (1431655765 : Int32))) &&& (858993459 : Int32)) + (((((p0 - ((((p0).toUInt32 >>> (((1 : Int32)).toUInt32 &&& Int32.toUInt32 31)).toInt32) &&& (1431655765 : Int32)))).toUInt32 >>> (((2 : Int32)).toUInt32 &&& Int32.toUInt32 31)).toInt32) &&& (858993459 : Int32))) + ((((((p0 - ((((p0).toUInt32 >>> (((1 : Int32)).toUInt32 &&& Int32.toUInt32 31)).toInt32) &&& (1431655765 : Int32))) &&& (858993459 : Int32)) + (((((p0 - ((((p0).toUInt32 >>> (((1 : Int32)).toUInt32 &&& Int32.toUInt32 31)).toInt32) &&& (1431655765 : Int32)))).toUInt32 >>> (((2 : Int32)).toUInt32 &&& Int32.toUInt32 31)).toInt32) &&& (858993459 : Int32)))).toUInt32 >>> (((4 : Int32)).toUInt32 &&& Int32.toUInt32 31)).toInt32)) &&& (252645135 : Int32)) + ((((((((p0 - ((((p0).toUInt32 >>> (((1 : Int32)).toUInt32 &&& Int32.toUInt32 31)).toInt32) &&& (1431655765 : Int32))) &&& (858993459 : Int32)) + (((((p0 - ((((p0).toUInt32 >>> (((1 : Int32)).toUInt32 &&& Int32.toUInt32 31)).toInt32) &&& (1431655765 : Int32)))).toUInt32 >>> (((2 : Int32)).toUInt32 &&& Int32.toUInt32 31)).toInt32) &&& (858993459 : Int32))) + ((((((p0 - ((((p0).toUInt32 >>> (((1 : Int32)).toUInt32 &&& Int32.toUInt32 31)).toInt32) &&& (1431655765 : Int32))) &&& (858993459 : Int32)) + (((((p0 - ((((p0).toUInt32 >>> (((1 : Int32)).toUInt32 &&& Int32.toUInt32 31)).toInt32) &&& (1431655765 : Int32)))).toUInt32 >>> (((2 : Int32)).toUInt32 &&& Int32.toUInt32 31)).toInt32) &&& (858993459 : Int32)))).toUInt32 >>> (((4 : Int32)).toUInt32 &&& Int32.toUInt32 31)).toInt32)) &&& (252645135 : Int32))).toUInt32 >>> (((8 : Int32)).toUInt32 &&& Int32.toUInt32 31)).toInt32))).toUInt32 >>> (((16 : Int32)).toUInt32 &&& Int32.toUInt32 31)).toInt32)))]) hx hb dJ6_bitCount_0f7a4_47 rfl hl (by decide) rfl (fun ls hl => ?_)
  refine lv_iload_n hx hb dJ6_bitCount_0f7a4_48 rfl (lv_at hl 0 rfl) ?_
  refine lv_bipush (v := 63) hx hb dJ6_bitCount_0f7a4_49 (by decide) ?_
  refine lv_iand hx hb dJ6_bitCount_0f7a4_51 ?_
  exact k_iret (v := ((((((((p0 - ((((p0).toUInt32 >>> (((1 : Int32)).toUInt32 &&& Int32.toUInt32 31)).toInt32) &&& (1431655765 : Int32))) &&& (858993459 : Int32)) + (((((p0 - ((((p0).toUInt32 >>> (((1 : Int32)).toUInt32 &&& Int32.toUInt32 31)).toInt32) &&& (1431655765 : Int32)))).toUInt32 >>> (((2 : Int32)).toUInt32 &&& Int32.toUInt32 31)).toInt32) &&& (858993459 : Int32))) + ((((((p0 - ((((p0).toUInt32 >>> (((1 : Int32)).toUInt32 &&& Int32.toUInt32 31)).toInt32) &&& (1431655765 : Int32))) &&& (858993459 : Int32)) + (((((p0 - ((((p0).toUInt32 >>> (((1 : Int32)).toUInt32 &&& Int32.toUInt32 31)).toInt32) &&& (1431655765 : Int32)))).toUInt32 >>> (((2 : Int32)).toUInt32 &&& Int32.toUInt32 31)).toInt32) &&& (858993459 : Int32)))).toUInt32 >>> (((4 : Int32)).toUInt32 &&& Int32.toUInt32 31)).toInt32)) &&& (252645135 : Int32)) + ((((((((p0 - ((((p0).toUInt32 >>> (((1 : Int32)).toUInt32 &&& Int32.toUInt32 31)).toInt32) &&& (1431655765 : Int32))) &&& (858993459 : Int32)) + (((((p0 - ((((p0).toUInt32 >>> (((1 : Int32)).toUInt32 &&& Int32.toUInt32 31)).toInt32) &&& (1431655765 : Int32)))).toUInt32 >>> (((2 : Int32)).toUInt32 &&& Int32.toUInt32 31)).toInt32) &&& (858993459 : Int32))) + ((((((p0 - ((((p0).toUInt32 >>> (((1 : Int32)).toUInt32 &&& Int32.toUInt32 31)).toInt32) &&& (1431655765 : Int32))) &&& (858993459 : Int32)) + (((((p0 - ((((p0).toUInt32 >>> (((1 : Int32)).toUInt32 &&& Int32.toUInt32 31)).toInt32) &&& (1431655765 : Int32)))).toUInt32 >>> (((2 : Int32)).toUInt32 &&& Int32.toUInt32 31)).toInt32) &&& (858993459 : Int32)))).toUInt32 >>> (((4 : Int32)).toUInt32 &&& Int32.toUInt32 31)).toInt32)) &&& (252645135 : Int32))).toUInt32 >>> (((8 : Int32)).toUInt32 &&& Int32.toUInt32 31)).toInt32)) + (((((((((p0 - ((((p0).toUInt32 >>> (((1 : Int32)).toUInt32 &&& Int32.toUInt32 31)).toInt32) &&& (1431655765 : Int32))) &&& (858993459 : Int32)) + (((((p0 - ((((p0).toUInt32 >>> (((1 : Int32)).toUInt32 &&& Int32.toUInt32 31)).toInt32) &&& (1431655765 : Int32)))).toUInt32 >>> (((2 : Int32)).toUInt32 &&& Int32.toUInt32 31)).toInt32) &&& (858993459 : Int32))) + ((((((p0 - ((((p0).toUInt32 >>> (((1 : Int32)).toUInt32 &&& Int32.toUInt32 31)).toInt32) &&& (1431655765 : Int32))) &&& (858993459 : Int32)) + (((((p0 - ((((p0).toUInt32 >>> (((1 : Int32)).toUInt32 &&& Int32.toUInt32 31)).toInt32) &&& (1431655765 : Int32)))).toUInt32 >>> (((2 : Int32)).toUInt32 &&& Int32.toUInt32 31)).toInt32) &&& (858993459 : Int32)))).toUInt32 >>> (((4 : Int32)).toUInt32 &&& Int32.toUInt32 31)).toInt32)) &&& (252645135 : Int32)) + ((((((((p0 - ((((p0).toUInt32 >>> (((1 : Int32)).toUInt32 &&& Int32.toUInt32 31)).toInt32) &&& (1431655765 : Int32))) &&& (858993459 : Int32)) + (((((p0 - ((((p0).toUInt32 >>> (((1 : Int32)).toUInt32 &&& Int32.toUInt32 31)).toInt32) &&& (1431655765 : Int32)))).toUInt32 >>> (((2 : Int32)).toUInt32 &&& Int32.toUInt32 31)).toInt32) &&& (858993459 : Int32))) + ((((((p0 - ((((p0).toUInt32 >>> (((1 : Int32)).toUInt32 &&& Int32.toUInt32 31)).toInt32) &&& (1431655765 : Int32))) &&& (858993459 : Int32)) + (((((p0 - ((((p0).toUInt32 >>> (((1 : Int32)).toUInt32 &&& Int32.toUInt32 31)).toInt32) &&& (1431655765 : Int32)))).toUInt32 >>> (((2 : Int32)).toUInt32 &&& Int32.toUInt32 31)).toInt32) &&& (858993459 : Int32)))).toUInt32 >>> (((4 : Int32)).toUInt32 &&& Int32.toUInt32 31)).toInt32)) &&& (252645135 : Int32))).toUInt32 >>> (((8 : Int32)).toUInt32 &&& Int32.toUInt32 31)).toInt32))).toUInt32 >>> (((16 : Int32)).toUInt32 &&& Int32.toUInt32 31)).toInt32)) &&& (63 : Int32))) (u := ()) hx hb hr hlocks hK hS eQ hf hP hD dJ6_bitCount_0f7a4_52
set_option maxHeartbeats 4000000 in
set_option maxRecDepth 100000 in
theorem c_X10_atT (l : Launch) (D : va_G) (cI cZ : ClassId) (tA : Nat) (sz : Nat) (p1 : Int32) (z : Int32 × Unit) (hf : f_X10_atT p1 = some z) : Met l yX10_at wsX10_at rmX10_atT (va_Pc [.ref tA, .int p1] (wPrT D cI cZ tA (([] : va_W)) sz)) (va_Qi (fun (r : Int32) (v : Unit) => (r, v) = z) (fun (v : Unit) t => wPo D cI cZ (va_A (([] : va_W)) sz) (([] : va_W)) t) (va_A (([] : va_W)) sz)) 0 0 (va_A (([] : va_W)) sz) := by
  refine k_enterT (D := D) (cI := cI) (cZ := cZ) (wl := ([] : va_W)) (sz := sz) (av := [.ref tA, .int p1]) (cc := cX10_at) (maxL := 2) (ret := (some .int)) (Qc := fun A => va_Qi (fun (r : Int32) (v : Unit) => (r, v) = z) (fun (v : Unit) t => wPo D cI cZ (A) (([] : va_W)) t) (A)) (by decide) rfl (Nat.le_of_ble_eq_true rfl) ?_
  intro p e s m below meth c ls A Q H locs eQ hx hb hr hml hts hown hlocks hK hP hD hS hA hE hl hT
  have hown : s.vm.findClass RX10 = some m.cls := hown
  have hl : lv_has ls 2 [(0, .ref tA), (1, .int p1)] := hl
  rw [f_X10_atT] at hf
  refine lv_iload_n hx hb dX10_at_0 rfl (lv_at hl 1 rfl) ?_
  refine lv_if_lt (tgt := 16) hx hb dX10_at_1 (by decide) (fun c1 => ?_) (fun c1 => ?_)
  · have hf := (if_pos c1).symm.trans hf
    refine lv_bipush (v := -6) hx hb dX10_at_16 (by decide) ?_
    exact k_iret (v := (-6 : Int32)) (u := ()) hx hb hr hlocks hK hS eQ hf hP hD dX10_at_18
  · have hf := (if_neg c1).symm.trans hf
    refine lv_iload_n hx hb dX10_at_4 rfl (lv_at hl 1 rfl) ?_
    refine lv_aload_n hx hb dX10_at_5 rfl (lv_at hl 0 rfl) ?_
    refine va_tlen hx hb hT hS (v := 8) rfl dX10_at_6 ?_
    refine lv_icmp_ge (tgt := 16) hx hb dX10_at_7 (by decide) (fun c2 => ?_) (fun c2 => ?_)
    · have hf := (if_pos c2).symm.trans hf
      refine lv_bipush (v := -6) hx hb dX10_at_16 (by decide) ?_
      exact k_iret (v := (-6 : Int32)) (u := ()) hx hb hr hlocks hK hS eQ hf hP hD dX10_at_18
    · have hf := (if_neg c2).symm.trans hf
      refine lv_aload_n hx hb dX10_at_10 rfl (lv_at hl 0 rfl) ?_
      refine lv_iload_n hx hb dX10_at_11 rfl (lv_at hl 1 rfl) ?_
      by_cases c3 : p1 < 0 ∨ 8 ≤ p1.toNatClampNeg
      · have hf := (if_pos c3).symm.trans hf
        cases hf
      have hf := (if_neg c3).symm.trans hf
      refine va_ti hx hb hT hS (show vp_in p1 8 from c3) (v := .int (arms p1.toNatClampNeg)) rfl dX10_at_12 ?_
      refine lv_goto (tgt := 18) hx hb dX10_at_13 (by decide) ?_
      exact k_iret (v := (arms p1.toNatClampNeg)) (u := ()) hx hb hr hlocks hK hS eQ hf hP hD dX10_at_18
theorem hd_X9_copyFrom : yX9_copyFrom.cls ≠ "java/lang/invoke/MethodHandle" ∧ yX9_copyFrom.cls ≠ "java/lang/invoke/VarHandle" ∧ (parseMethodDescriptor yX9_copyFrom.desc).map (fun d => d.parameters.length) = some 1 := by decide +kernel
set_option maxHeartbeats 4000000 in
set_option maxRecDepth 100000 in
theorem c_X9_copyFrom (l : Launch) (D : va_G) (cI cZ : ClassId) (th0 : Nat) (th1 : Nat) (th2 : Nat) (th3 : Nat) (th4 : Nat) (o10 : Nat) (o11 : Nat) (o12 : Nat) (o13 : Nat) (o14 : Nat) (sz : Nat) (u_th : sW) (u_o1 : sW) (z : sW) (hf : f_X9_copyFrom u_th u_o1 = some z) : Met l yX9_copyFrom wsX9_copyFrom rmX9_copyFrom (va_Pc [.ref th0, .ref o10] (wPr D cI cZ (cW cI cZ th0 th1 th2 th3 th4 u_th ++ (cW cI cZ o10 o11 o12 o13 o14 u_o1)) sz)) (va_Qv (fun (v : sW) => v = z) (fun (v : sW) t => wPo D cI cZ (va_A (cW cI cZ th0 th1 th2 th3 th4 u_th ++ (cW cI cZ o10 o11 o12 o13 o14 u_o1)) sz) (cW cI cZ th0 th1 th2 th3 th4 v ++ (cW cI cZ o10 o11 o12 o13 o14 u_o1)) t) (va_A (cW cI cZ th0 th1 th2 th3 th4 u_th ++ (cW cI cZ o10 o11 o12 o13 o14 u_o1)) sz)) 0 0 (va_A (cW cI cZ th0 th1 th2 th3 th4 u_th ++ (cW cI cZ o10 o11 o12 o13 o14 u_o1)) sz) := by
  refine k_enter (D := D) (cI := cI) (cZ := cZ) (wl := cW cI cZ th0 th1 th2 th3 th4 u_th ++ (cW cI cZ o10 o11 o12 o13 o14 u_o1)) (sz := sz) (av := [.ref th0, .ref o10]) (cc := cX9_copyFrom) (maxL := 2) (ret := none) (Qc := fun A => va_Qv (fun (v : sW) => v = z) (fun (v : sW) t => wPo D cI cZ (A) (cW cI cZ th0 th1 th2 th3 th4 v ++ (cW cI cZ o10 o11 o12 o13 o14 u_o1)) t) (A)) (by decide) rfl (Nat.le_of_ble_eq_true rfl) ?_
  intro p e s m below meth c ls A Q H locs eQ hx hb hr hml hts hown hlocks hK hP hD hS hA hE hl
  have hown : s.vm.findClass RX9 = some m.cls := hown
  have hl : lv_has ls 2 [(0, .ref th0), (1, .ref o10)] := hl
  have hi_X9 : ∀ w ∈ wsX90, w ∈ wsX9_copyFrom := fun w h => List.mem_cons_of_mem _ (List.mem_append_right _ h)
  rw [f_X9_copyFrom] at hf
  refine lv_aload_n hx hb dX9_copyFrom_0 rfl (lv_at hl 1 rfl) ?_
  refine va_get (D := D) (ci := 6) (v := .ref o11) (C := RX9) (T := TX9) (N := 6) hx hb hts hi_X9 hown hK hP 5 rfl rfl 0 (by decide) (hts (.fieldLink RX9 9 "FairWheel$Wheel" "weights" "[I") (List.mem_of_getElem? (i := 1) rfl)) (fun _ h9 => h9) rfl dX9_copyFrom_1 ?_
  refine lv_aload_n hx hb dX9_copyFrom_4 rfl (lv_at hl 0 rfl) ?_
  refine va_get (D := D) (ci := 6) (v := .ref th1) (C := RX9) (T := TX9) (N := 6) hx hb hts hi_X9 hown hK hP 0 rfl rfl 0 (by decide) (hts (.fieldLink RX9 9 "FairWheel$Wheel" "weights" "[I") (List.mem_of_getElem? (i := 1) rfl)) (fun _ h9 => h9) rfl dX9_copyFrom_5 ?_
  obtain ⟨z1, hz_z1, hf⟩ := o_bind hf
  refine k_callv (va_runSN (As := [.ref o11, .ref th1]) (rest := []) ⟨hx, hb, hml, hown, hts⟩ (c_X10_copyRow l D cI cZ o11 th1 H.size 8 8 (W_weights u_o1) (W_weights u_th) z1 hz_z1) ⟨va_cnB 2 hts gX9_copyFrom_X10_copyRow_n37 rfl rfl rfl (hE.1.1 (RX9, 37, yX10_copyRow) (List.mem_of_getElem? (i := 11) rfl)) (hts (.initialized RX10) (List.mem_of_getElem? (i := 8) rfl)) hd_X10_copyRow ⟨Nat.le_of_ble_eq_true rfl, Nat.le_of_ble_eq_true rfl⟩, hts (.static yX10_copyRow) (List.mem_of_getElem? (i := 7) rfl), trivial⟩ (k_preS hK hP hD hS hA hE [6, 1] (by decide) rfl) rfl rfl hl.1 rfl (lv_room (Nat.le_of_ble_eq_true rfl)) dX9_copyFrom_8 ⟨Nat.zero_le _, Nat.zero_le _⟩) hP hD hS hA [6, 1] [none, some 1, none, none, none, none, some 0, none, none, none] 2 rfl (by decide) (by decide) rfl rfl (fun H locs hP hD hS => ?_)
  have hP : va_P D vwCl (cW cI cZ th0 th1 th2 th3 th4 (z1, (W_cars u_th), (W_riders u_th), (W_loads u_th), (W_lowest u_th), (W_friction u_th)) ++ (cW cI cZ o10 o11 o12 o13 o14 u_o1)) H := hP
  have hD : va_D A (cW cI cZ th0 th1 th2 th3 th4 (z1, (W_cars u_th), (W_riders u_th), (W_loads u_th), (W_lowest u_th), (W_friction u_th)) ++ (cW cI cZ o10 o11 o12 o13 o14 u_o1)) := hD
  refine lv_aload_n hx hb dX9_copyFrom_11 rfl (lv_at hl 1 rfl) ?_
  refine va_get (D := D) (ci := 6) (v := .ref o12) (C := RX9) (T := TX9) (N := 6) hx hb hts hi_X9 hown hK hP 5 rfl rfl 1 (by decide) (hts (.fieldLink RX9 15 "FairWheel$Wheel" "cars" "[I") (List.mem_of_getElem? (i := 2) rfl)) (fun _ h9 => h9) rfl dX9_copyFrom_12 ?_
  refine lv_aload_n hx hb dX9_copyFrom_15 rfl (lv_at hl 0 rfl) ?_
  refine va_get (D := D) (ci := 6) (v := .ref th2) (C := RX9) (T := TX9) (N := 6) hx hb hts hi_X9 hown hK hP 0 rfl rfl 1 (by decide) (hts (.fieldLink RX9 15 "FairWheel$Wheel" "cars" "[I") (List.mem_of_getElem? (i := 2) rfl)) (fun _ h9 => h9) rfl dX9_copyFrom_16 ?_
  obtain ⟨z2, hz_z2, hf⟩ := o_bind hf
  refine k_callv (va_runSN (As := [.ref o12, .ref th2]) (rest := []) ⟨hx, hb, hml, hown, hts⟩ (c_X10_copyRow l D cI cZ o12 th2 H.size 8 8 (W_cars u_o1) (W_cars u_th) z2 hz_z2) ⟨va_cnB 2 hts gX9_copyFrom_X10_copyRow_n37 rfl rfl rfl (hE.1.1 (RX9, 37, yX10_copyRow) (List.mem_of_getElem? (i := 11) rfl)) (hts (.initialized RX10) (List.mem_of_getElem? (i := 8) rfl)) hd_X10_copyRow ⟨Nat.le_of_ble_eq_true rfl, Nat.le_of_ble_eq_true rfl⟩, hts (.static yX10_copyRow) (List.mem_of_getElem? (i := 7) rfl), trivial⟩ (k_preS hK hP hD hS hA hE [7, 2] (by decide) rfl) rfl rfl hl.1 rfl (lv_room (Nat.le_of_ble_eq_true rfl)) dX9_copyFrom_19 ⟨Nat.zero_le _, Nat.zero_le _⟩) hP hD hS hA [7, 2] [none, none, some 1, none, none, none, none, some 0, none, none] 2 rfl (by decide) (by decide) rfl rfl (fun H locs hP hD hS => ?_)
  have hP : va_P D vwCl (cW cI cZ th0 th1 th2 th3 th4 (z1, z2, (W_riders u_th), (W_loads u_th), (W_lowest u_th), (W_friction u_th)) ++ (cW cI cZ o10 o11 o12 o13 o14 u_o1)) H := hP
  have hD : va_D A (cW cI cZ th0 th1 th2 th3 th4 (z1, z2, (W_riders u_th), (W_loads u_th), (W_lowest u_th), (W_friction u_th)) ++ (cW cI cZ o10 o11 o12 o13 o14 u_o1)) := hD
  refine lv_aload_n hx hb dX9_copyFrom_22 rfl (lv_at hl 1 rfl) ?_
  refine va_get (D := D) (ci := 6) (v := .ref o13) (C := RX9) (T := TX9) (N := 6) hx hb hts hi_X9 hown hK hP 5 rfl rfl 2 (by decide) (hts (.fieldLink RX9 18 "FairWheel$Wheel" "riders" "[I") (List.mem_of_getElem? (i := 3) rfl)) (fun _ h9 => h9) rfl dX9_copyFrom_23 ?_
  refine lv_aload_n hx hb dX9_copyFrom_26 rfl (lv_at hl 0 rfl) ?_
  refine va_get (D := D) (ci := 6) (v := .ref th3) (C := RX9) (T := TX9) (N := 6) hx hb hts hi_X9 hown hK hP 0 rfl rfl 2 (by decide) (hts (.fieldLink RX9 18 "FairWheel$Wheel" "riders" "[I") (List.mem_of_getElem? (i := 3) rfl)) (fun _ h9 => h9) rfl dX9_copyFrom_27 ?_
  obtain ⟨z3, hz_z3, hf⟩ := o_bind hf
  refine k_callv (va_runSN (As := [.ref o13, .ref th3]) (rest := []) ⟨hx, hb, hml, hown, hts⟩ (c_X10_copyRow l D cI cZ o13 th3 H.size 8 8 (W_riders u_o1) (W_riders u_th) z3 hz_z3) ⟨va_cnB 2 hts gX9_copyFrom_X10_copyRow_n37 rfl rfl rfl (hE.1.1 (RX9, 37, yX10_copyRow) (List.mem_of_getElem? (i := 11) rfl)) (hts (.initialized RX10) (List.mem_of_getElem? (i := 8) rfl)) hd_X10_copyRow ⟨Nat.le_of_ble_eq_true rfl, Nat.le_of_ble_eq_true rfl⟩, hts (.static yX10_copyRow) (List.mem_of_getElem? (i := 7) rfl), trivial⟩ (k_preS hK hP hD hS hA hE [8, 3] (by decide) rfl) rfl rfl hl.1 rfl (lv_room (Nat.le_of_ble_eq_true rfl)) dX9_copyFrom_30 ⟨Nat.zero_le _, Nat.zero_le _⟩) hP hD hS hA [8, 3] [none, none, none, some 1, none, none, none, none, some 0, none] 2 rfl (by decide) (by decide) rfl rfl (fun H locs hP hD hS => ?_)
  have hP : va_P D vwCl (cW cI cZ th0 th1 th2 th3 th4 (z1, z2, z3, (W_loads u_th), (W_lowest u_th), (W_friction u_th)) ++ (cW cI cZ o10 o11 o12 o13 o14 u_o1)) H := hP
  have hD : va_D A (cW cI cZ th0 th1 th2 th3 th4 (z1, z2, z3, (W_loads u_th), (W_lowest u_th), (W_friction u_th)) ++ (cW cI cZ o10 o11 o12 o13 o14 u_o1)) := hD
  refine lv_aload_n hx hb dX9_copyFrom_33 rfl (lv_at hl 1 rfl) ?_
  refine va_get (D := D) (ci := 6) (v := .ref o14) (C := RX9) (T := TX9) (N := 6) hx hb hts hi_X9 hown hK hP 5 rfl rfl 3 (by decide) (hts (.fieldLink RX9 21 "FairWheel$Wheel" "loads" "[I") (List.mem_of_getElem? (i := 4) rfl)) (fun _ h9 => h9) rfl dX9_copyFrom_34 ?_
  refine lv_aload_n hx hb dX9_copyFrom_37 rfl (lv_at hl 0 rfl) ?_
  refine va_get (D := D) (ci := 6) (v := .ref th4) (C := RX9) (T := TX9) (N := 6) hx hb hts hi_X9 hown hK hP 0 rfl rfl 3 (by decide) (hts (.fieldLink RX9 21 "FairWheel$Wheel" "loads" "[I") (List.mem_of_getElem? (i := 4) rfl)) (fun _ h9 => h9) rfl dX9_copyFrom_38 ?_
  obtain ⟨z4, hz_z4, hf⟩ := o_bind hf
  refine k_callv (va_runSN (As := [.ref o14, .ref th4]) (rest := []) ⟨hx, hb, hml, hown, hts⟩ (c_X10_copyRow l D cI cZ o14 th4 H.size 8 8 (W_loads u_o1) (W_loads u_th) z4 hz_z4) ⟨va_cnB 2 hts gX9_copyFrom_X10_copyRow_n37 rfl rfl rfl (hE.1.1 (RX9, 37, yX10_copyRow) (List.mem_of_getElem? (i := 11) rfl)) (hts (.initialized RX10) (List.mem_of_getElem? (i := 8) rfl)) hd_X10_copyRow ⟨Nat.le_of_ble_eq_true rfl, Nat.le_of_ble_eq_true rfl⟩, hts (.static yX10_copyRow) (List.mem_of_getElem? (i := 7) rfl), trivial⟩ (k_preS hK hP hD hS hA hE [9, 4] (by decide) rfl) rfl rfl hl.1 rfl (lv_room (Nat.le_of_ble_eq_true rfl)) dX9_copyFrom_41 ⟨Nat.zero_le _, Nat.zero_le _⟩) hP hD hS hA [9, 4] [none, none, none, none, some 1, none, none, none, none, some 0] 2 rfl (by decide) (by decide) rfl rfl (fun H locs hP hD hS => ?_)
  have hP : va_P D vwCl (cW cI cZ th0 th1 th2 th3 th4 (z1, z2, z3, z4, (W_lowest u_th), (W_friction u_th)) ++ (cW cI cZ o10 o11 o12 o13 o14 u_o1)) H := hP
  have hD : va_D A (cW cI cZ th0 th1 th2 th3 th4 (z1, z2, z3, z4, (W_lowest u_th), (W_friction u_th)) ++ (cW cI cZ o10 o11 o12 o13 o14 u_o1)) := hD
  refine lv_aload_n hx hb dX9_copyFrom_44 rfl (lv_at hl 0 rfl) ?_
  refine lv_aload_n hx hb dX9_copyFrom_45 rfl (lv_at hl 1 rfl) ?_
  refine va_get (D := D) (ci := 6) (v := .int (W_lowest u_o1)) (C := RX9) (T := TX9) (N := 6) hx hb hts hi_X9 hown hK hP 5 rfl rfl 4 (by decide) (hts (.fieldLink RX9 24 "FairWheel$Wheel" "lowest" "I") (List.mem_of_getElem? (i := 5) rfl)) (fun _ h9 => h9) rfl dX9_copyFrom_46 ?_
  refine va_put (D := D) (ci := 6) (v := .int (W_lowest u_o1)) (ty := .int) (C := RX9) (T := TX9) (N := 6) hx hb hts hi_X9 tyX9 tyX9_ok nmX9 hown hK hP hD hS 0 rfl rfl 4 (by decide) (hts (.fieldLink RX9 24 "FairWheel$Wheel" "lowest" "I") (List.mem_of_getElem? (i := 5) rfl)) (fun _ h9 => h9) rfl (by decide +kernel) rfl rfl (Nat.le_of_ble_eq_true rfl) dX9_copyFrom_49 (fun H locs hP hD hS => ?_)
  have hP : va_P D vwCl (cW cI cZ th0 th1 th2 th3 th4 (z1, z2, z3, z4, (W_lowest u_o1), (W_friction u_th)) ++ (cW cI cZ o10 o11 o12 o13 o14 u_o1)) H := hP
  have hD : va_D A (cW cI cZ th0 th1 th2 th3 th4 (z1, z2, z3, z4, (W_lowest u_o1), (W_friction u_th)) ++ (cW cI cZ o10 o11 o12 o13 o14 u_o1)) := hD
  refine lv_aload_n hx hb dX9_copyFrom_52 rfl (lv_at hl 0 rfl) ?_
  refine lv_aload_n hx hb dX9_copyFrom_53 rfl (lv_at hl 1 rfl) ?_
  refine va_get (D := D) (ci := 6) (v := .int (W_friction u_o1)) (C := RX9) (T := TX9) (N := 6) hx hb hts hi_X9 hown hK hP 5 rfl rfl 5 (by decide) (hts (.fieldLink RX9 28 "FairWheel$Wheel" "friction" "I") (List.mem_of_getElem? (i := 6) rfl)) (fun _ h9 => h9) rfl dX9_copyFrom_54 ?_
  refine va_put (D := D) (ci := 6) (v := .int (W_friction u_o1)) (ty := .int) (C := RX9) (T := TX9) (N := 6) hx hb hts hi_X9 tyX9 tyX9_ok nmX9 hown hK hP hD hS 0 rfl rfl 5 (by decide) (hts (.fieldLink RX9 28 "FairWheel$Wheel" "friction" "I") (List.mem_of_getElem? (i := 6) rfl)) (fun _ h9 => h9) rfl (by decide +kernel) rfl rfl (Nat.le_of_ble_eq_true rfl) dX9_copyFrom_57 (fun H locs hP hD hS => ?_)
  have hP : va_P D vwCl (cW cI cZ th0 th1 th2 th3 th4 (z1, z2, z3, z4, (W_lowest u_o1), (W_friction u_o1)) ++ (cW cI cZ o10 o11 o12 o13 o14 u_o1)) H := hP
  have hD : va_D A (cW cI cZ th0 th1 th2 th3 th4 (z1, z2, z3, z4, (W_lowest u_o1), (W_friction u_o1)) ++ (cW cI cZ o10 o11 o12 o13 o14 u_o1)) := hD
  exact k_vret (u := (z1, z2, z3, z4, (W_lowest u_o1), (W_friction u_o1))) hx hb hr hlocks hK hS eQ hf hP hD dX9_copyFrom_60
theorem hd_X9_clear : yX9_clear.cls ≠ "java/lang/invoke/MethodHandle" ∧ yX9_clear.cls ≠ "java/lang/invoke/VarHandle" ∧ (parseMethodDescriptor yX9_clear.desc).map (fun d => d.parameters.length) = some 0 := by decide +kernel
set_option maxHeartbeats 4000000 in
set_option maxRecDepth 100000 in
theorem c_X9_clear (l : Launch) (D : va_G) (cI cZ : ClassId) (th0 : Nat) (th1 : Nat) (th2 : Nat) (th3 : Nat) (th4 : Nat) (sz : Nat) (u_th : sW) (z : sW) (hf : f_X9_clear u_th = some z) : Met l yX9_clear wsX9_clear rmX9_clear (va_Pc [.ref th0] (wPr D cI cZ (cW cI cZ th0 th1 th2 th3 th4 u_th) sz)) (va_Qv (fun (v : sW) => v = z) (fun (v : sW) t => wPo D cI cZ (va_A (cW cI cZ th0 th1 th2 th3 th4 u_th) sz) (cW cI cZ th0 th1 th2 th3 th4 v) t) (va_A (cW cI cZ th0 th1 th2 th3 th4 u_th) sz)) 0 0 (va_A (cW cI cZ th0 th1 th2 th3 th4 u_th) sz) := by
  refine k_enter (D := D) (cI := cI) (cZ := cZ) (wl := cW cI cZ th0 th1 th2 th3 th4 u_th) (sz := sz) (av := [.ref th0]) (cc := cX9_clear) (maxL := 1) (ret := none) (Qc := fun A => va_Qv (fun (v : sW) => v = z) (fun (v : sW) t => wPo D cI cZ (A) (cW cI cZ th0 th1 th2 th3 th4 v) t) (A)) (by decide) rfl (Nat.le_of_ble_eq_true rfl) ?_
  intro p e s m below meth c ls A Q H locs eQ hx hb hr hml hts hown hlocks hK hP hD hS hA hE hl
  have hown : s.vm.findClass RX9 = some m.cls := hown
  have hl : lv_has ls 1 [(0, .ref th0)] := hl
  have hi_X9 : ∀ w ∈ wsX90, w ∈ wsX9_clear := fun w h => List.mem_cons_of_mem _ (List.mem_append_right _ h)
  rw [f_X9_clear] at hf
  refine lv_aload_n hx hb dX9_clear_0 rfl (lv_at hl 0 rfl) ?_
  refine va_get (D := D) (ci := 6) (v := .ref th2) (C := RX9) (T := TX9) (N := 6) hx hb hts hi_X9 hown hK hP 0 rfl rfl 1 (by decide) (hts (.fieldLink RX9 15 "FairWheel$Wheel" "cars" "[I") (List.mem_of_getElem? (i := 1) rfl)) (fun _ h9 => h9) rfl dX9_clear_1 ?_
  refine lv_bipush (v := -6) hx hb dX9_clear_4 (by decide) ?_
  obtain ⟨z1, hz_z1, hf⟩ := o_bind hf
  refine k_callv (va_runS (As := [.ref th2, .int (-6 : Int32)]) (rest := []) ⟨hx, hb, hml, hown, hts⟩ (c_J7_fill_53178 l D cI cZ th2 H.size 8 (W_cars u_th) (-6 : Int32) z1 hz_z1) (va_cwS 2 hts gX9_clear_J7_fill_53178 rfl rfl rfl hd_J7_fill_53178 ⟨Nat.le_of_ble_eq_true rfl, Nat.le_of_ble_eq_true rfl⟩) (k_preS hK hP hD hS hA hE [2] (by decide) rfl) rfl rfl hl.1 rfl (lv_room (Nat.le_of_ble_eq_true rfl)) dX9_clear_6 ⟨Nat.zero_le _, Nat.zero_le _⟩) hP hD hS hA [2] [none, none, some 0, none, none] 1 rfl (by decide) (by decide) rfl rfl (fun H locs hP hD hS => ?_)
  have hP : va_P D vwCl (cW cI cZ th0 th1 th2 th3 th4 ((W_weights u_th), z1, (W_riders u_th), (W_loads u_th), (W_lowest u_th), (W_friction u_th))) H := hP
  have hD : va_D A (cW cI cZ th0 th1 th2 th3 th4 ((W_weights u_th), z1, (W_riders u_th), (W_loads u_th), (W_lowest u_th), (W_friction u_th))) := hD
  refine lv_aload_n hx hb dX9_clear_9 rfl (lv_at hl 0 rfl) ?_
  refine va_get (D := D) (ci := 6) (v := .ref th3) (C := RX9) (T := TX9) (N := 6) hx hb hts hi_X9 hown hK hP 0 rfl rfl 2 (by decide) (hts (.fieldLink RX9 18 "FairWheel$Wheel" "riders" "[I") (List.mem_of_getElem? (i := 2) rfl)) (fun _ h9 => h9) rfl dX9_clear_10 ?_
  refine lv_bipush (v := -6) hx hb dX9_clear_13 (by decide) ?_
  obtain ⟨z2, hz_z2, hf⟩ := o_bind hf
  refine k_callv (va_runS (As := [.ref th3, .int (-6 : Int32)]) (rest := []) ⟨hx, hb, hml, hown, hts⟩ (c_J7_fill_53178 l D cI cZ th3 H.size 8 (W_riders u_th) (-6 : Int32) z2 hz_z2) (va_cwS 2 hts gX9_clear_J7_fill_53178 rfl rfl rfl hd_J7_fill_53178 ⟨Nat.le_of_ble_eq_true rfl, Nat.le_of_ble_eq_true rfl⟩) (k_preS hK hP hD hS hA hE [3] (by decide) rfl) rfl rfl hl.1 rfl (lv_room (Nat.le_of_ble_eq_true rfl)) dX9_clear_15 ⟨Nat.zero_le _, Nat.zero_le _⟩) hP hD hS hA [3] [none, none, none, some 0, none] 1 rfl (by decide) (by decide) rfl rfl (fun H locs hP hD hS => ?_)
  have hP : va_P D vwCl (cW cI cZ th0 th1 th2 th3 th4 ((W_weights u_th), z1, z2, (W_loads u_th), (W_lowest u_th), (W_friction u_th))) H := hP
  have hD : va_D A (cW cI cZ th0 th1 th2 th3 th4 ((W_weights u_th), z1, z2, (W_loads u_th), (W_lowest u_th), (W_friction u_th))) := hD
  refine lv_aload_n hx hb dX9_clear_18 rfl (lv_at hl 0 rfl) ?_
  refine va_get (D := D) (ci := 6) (v := .ref th4) (C := RX9) (T := TX9) (N := 6) hx hb hts hi_X9 hown hK hP 0 rfl rfl 3 (by decide) (hts (.fieldLink RX9 21 "FairWheel$Wheel" "loads" "[I") (List.mem_of_getElem? (i := 3) rfl)) (fun _ h9 => h9) rfl dX9_clear_19 ?_
  refine lv_iconst (v := 0) hx hb dX9_clear_22 (by decide) ?_
  obtain ⟨z3, hz_z3, hf⟩ := o_bind hf
  refine k_callv (va_runS (As := [.ref th4, .int (0 : Int32)]) (rest := []) ⟨hx, hb, hml, hown, hts⟩ (c_J7_fill_53178 l D cI cZ th4 H.size 8 (W_loads u_th) (0 : Int32) z3 hz_z3) (va_cwS 2 hts gX9_clear_J7_fill_53178 rfl rfl rfl hd_J7_fill_53178 ⟨Nat.le_of_ble_eq_true rfl, Nat.le_of_ble_eq_true rfl⟩) (k_preS hK hP hD hS hA hE [4] (by decide) rfl) rfl rfl hl.1 rfl (lv_room (Nat.le_of_ble_eq_true rfl)) dX9_clear_23 ⟨Nat.zero_le _, Nat.zero_le _⟩) hP hD hS hA [4] [none, none, none, none, some 0] 1 rfl (by decide) (by decide) rfl rfl (fun H locs hP hD hS => ?_)
  have hP : va_P D vwCl (cW cI cZ th0 th1 th2 th3 th4 ((W_weights u_th), z1, z2, z3, (W_lowest u_th), (W_friction u_th))) H := hP
  have hD : va_D A (cW cI cZ th0 th1 th2 th3 th4 ((W_weights u_th), z1, z2, z3, (W_lowest u_th), (W_friction u_th))) := hD
  exact k_vret (u := ((W_weights u_th), z1, z2, z3, (W_lowest u_th), (W_friction u_th))) hx hb hr hlocks hK hS eQ hf hP hD dX9_clear_26
theorem hd_X9_weightOf : yX9_weightOf.cls ≠ "java/lang/invoke/MethodHandle" ∧ yX9_weightOf.cls ≠ "java/lang/invoke/VarHandle" ∧ (parseMethodDescriptor yX9_weightOf.desc).map (fun d => d.parameters.length) = some 1 := by decide +kernel
set_option maxHeartbeats 4000000 in
set_option maxRecDepth 100000 in
theorem c_X9_weightOf (l : Launch) (D : va_G) (cI cZ : ClassId) (th0 : Nat) (th1 : Nat) (th2 : Nat) (th3 : Nat) (th4 : Nat) (sz : Nat) (u_th : sW) (p1 : Int32) (z : Int32 × Unit) (hf : f_X9_weightOf u_th p1 = some z) : Met l yX9_weightOf wsX9_weightOf rmX9_weightOf (va_Pc [.ref th0, .int p1] (wPr D cI cZ (cW cI cZ th0 th1 th2 th3 th4 u_th) sz)) (va_Qi (fun (r : Int32) (v : Unit) => (r, v) = z) (fun (v : Unit) t => wPo D cI cZ (va_A (cW cI cZ th0 th1 th2 th3 th4 u_th) sz) (cW cI cZ th0 th1 th2 th3 th4 u_th) t) (va_A (cW cI cZ th0 th1 th2 th3 th4 u_th) sz)) 0 0 (va_A (cW cI cZ th0 th1 th2 th3 th4 u_th) sz) := by
  refine k_enter (D := D) (cI := cI) (cZ := cZ) (wl := cW cI cZ th0 th1 th2 th3 th4 u_th) (sz := sz) (av := [.ref th0, .int p1]) (cc := cX9_weightOf) (maxL := 2) (ret := (some .int)) (Qc := fun A => va_Qi (fun (r : Int32) (v : Unit) => (r, v) = z) (fun (v : Unit) t => wPo D cI cZ (A) (cW cI cZ th0 th1 th2 th3 th4 u_th) t) (A)) (by decide) rfl (Nat.le_of_ble_eq_true rfl) ?_
  intro p e s m below meth c ls A Q H locs eQ hx hb hr hml hts hown hlocks hK hP hD hS hA hE hl
  have hown : s.vm.findClass RX9 = some m.cls := hown
  have hl : lv_has ls 2 [(0, .ref th0), (1, .int p1)] := hl
  have hi_X9 : ∀ w ∈ wsX90, w ∈ wsX9_weightOf := fun w h => List.mem_cons_of_mem _ (List.mem_append_right _ h)
  rw [f_X9_weightOf] at hf
  refine lv_aload_n hx hb dX9_weightOf_0 rfl (lv_at hl 0 rfl) ?_
  refine va_get (D := D) (ci := 6) (v := .ref th1) (C := RX9) (T := TX9) (N := 6) hx hb hts hi_X9 hown hK hP 0 rfl rfl 0 (by decide) (hts (.fieldLink RX9 9 "FairWheel$Wheel" "weights" "[I") (List.mem_of_getElem? (i := 1) rfl)) (fun _ h9 => h9) rfl dX9_weightOf_1 ?_
  refine lv_iload_n hx hb dX9_weightOf_4 rfl (lv_at hl 1 rfl) ?_
  obtain ⟨z1, hz_z1, hf⟩ := o_bind hf
  refine k_calli (va_runSN (As := [.ref th1, .int p1]) (rest := []) ⟨hx, hb, hml, hown, hts⟩ (c_X10_at l D cI cZ th1 H.size 8 (W_weights u_th) p1 z1 hz_z1) ⟨va_cnB 2 hts gX9_weightOf_X10_at_n41 rfl rfl rfl (hE.1.1 (RX9, 41, yX10_at) (List.mem_of_getElem? (i := 12) rfl)) (hts (.initialized RX10) (List.mem_of_getElem? (i := 3) rfl)) hd_X10_at ⟨Nat.le_of_ble_eq_true rfl, Nat.le_of_ble_eq_true rfl⟩, hts (.static yX10_at) (List.mem_of_getElem? (i := 2) rfl), trivial⟩ (k_preS hK hP hD hS hA hE [1] (by decide) rfl) rfl rfl hl.1 rfl (lv_room (Nat.le_of_ble_eq_true rfl)) dX9_weightOf_5 ⟨Nat.zero_le _, Nat.zero_le _⟩) hP hD hS hA [1] [none, some 0, none, none, none] 1 rfl (by decide) (by decide) rfl rfl (fun H locs hP hD hS => ?_)
  have hP : va_P D vwCl (cW cI cZ th0 th1 th2 th3 th4 u_th) H := hP
  have hD : va_D A (cW cI cZ th0 th1 th2 th3 th4 u_th) := hD
  exact k_iret (v := z1.1) (u := ()) hx hb hr hlocks hK hS eQ hf hP hD dX9_weightOf_8
theorem hd_X9_setWeight : yX9_setWeight.cls ≠ "java/lang/invoke/MethodHandle" ∧ yX9_setWeight.cls ≠ "java/lang/invoke/VarHandle" ∧ (parseMethodDescriptor yX9_setWeight.desc).map (fun d => d.parameters.length) = some 2 := by decide +kernel
set_option maxHeartbeats 4000000 in
set_option maxRecDepth 100000 in
theorem c_X9_setWeight (l : Launch) (D : va_G) (cI cZ : ClassId) (th0 : Nat) (th1 : Nat) (th2 : Nat) (th3 : Nat) (th4 : Nat) (sz : Nat) (u_th : sW) (p1 : Int32) (p2 : Int32) (z : sW) (hf : f_X9_setWeight u_th p1 p2 = some z) : Met l yX9_setWeight wsX9_setWeight rmX9_setWeight (va_Pc [.ref th0, .int p1, .int p2] (wPr D cI cZ (cW cI cZ th0 th1 th2 th3 th4 u_th) sz)) (va_Qv (fun (v : sW) => v = z) (fun (v : sW) t => wPo D cI cZ (va_A (cW cI cZ th0 th1 th2 th3 th4 u_th) sz) (cW cI cZ th0 th1 th2 th3 th4 v) t) (va_A (cW cI cZ th0 th1 th2 th3 th4 u_th) sz)) 0 0 (va_A (cW cI cZ th0 th1 th2 th3 th4 u_th) sz) := by
  refine k_enter (D := D) (cI := cI) (cZ := cZ) (wl := cW cI cZ th0 th1 th2 th3 th4 u_th) (sz := sz) (av := [.ref th0, .int p1, .int p2]) (cc := cX9_setWeight) (maxL := 3) (ret := none) (Qc := fun A => va_Qv (fun (v : sW) => v = z) (fun (v : sW) t => wPo D cI cZ (A) (cW cI cZ th0 th1 th2 th3 th4 v) t) (A)) (by decide) rfl (Nat.le_of_ble_eq_true rfl) ?_
  intro p e s m below meth c ls A Q H locs eQ hx hb hr hml hts hown hlocks hK hP hD hS hA hE hl
  have hown : s.vm.findClass RX9 = some m.cls := hown
  have hl : lv_has ls 3 [(0, .ref th0), (1, .int p1), (2, .int p2)] := hl
  have hi_X9 : ∀ w ∈ wsX90, w ∈ wsX9_setWeight := fun w h => List.mem_cons_of_mem _ (List.mem_append_right _ h)
  rw [f_X9_setWeight] at hf
  refine lv_aload_n hx hb dX9_setWeight_0 rfl (lv_at hl 0 rfl) ?_
  refine va_get (D := D) (ci := 6) (v := .ref th1) (C := RX9) (T := TX9) (N := 6) hx hb hts hi_X9 hown hK hP 0 rfl rfl 0 (by decide) (hts (.fieldLink RX9 9 "FairWheel$Wheel" "weights" "[I") (List.mem_of_getElem? (i := 1) rfl)) (fun _ h9 => h9) rfl dX9_setWeight_1 ?_
  refine lv_iload_n hx hb dX9_setWeight_4 rfl (lv_at hl 1 rfl) ?_
  refine lv_iload_n hx hb dX9_setWeight_5 rfl (lv_at hl 2 rfl) ?_
  obtain ⟨z1, hz_z1, hf⟩ := o_bind hf
  refine k_callv (va_runSN (As := [.ref th1, .int p1, .int p2]) (rest := []) ⟨hx, hb, hml, hown, hts⟩ (c_X10_put l D cI cZ th1 H.size 8 (W_weights u_th) p1 p2 z1 hz_z1) ⟨va_cnB 3 hts gX9_setWeight_X10_put_n45 rfl rfl rfl (hE.1.1 (RX9, 45, yX10_put) (List.mem_of_getElem? (i := 13) rfl)) (hts (.initialized RX10) (List.mem_of_getElem? (i := 3) rfl)) hd_X10_put ⟨Nat.le_of_ble_eq_true rfl, Nat.le_of_ble_eq_true rfl⟩, hts (.static yX10_put) (List.mem_of_getElem? (i := 2) rfl), trivial⟩ (k_preS hK hP hD hS hA hE [1] (by decide) rfl) rfl rfl hl.1 rfl (lv_room (Nat.le_of_ble_eq_true rfl)) dX9_setWeight_6 ⟨Nat.zero_le _, Nat.zero_le _⟩) hP hD hS hA [1] [none, some 0, none, none, none] 1 rfl (by decide) (by decide) rfl rfl (fun H locs hP hD hS => ?_)
  have hP : va_P D vwCl (cW cI cZ th0 th1 th2 th3 th4 (z1, (W_cars u_th), (W_riders u_th), (W_loads u_th), (W_lowest u_th), (W_friction u_th))) H := hP
  have hD : va_D A (cW cI cZ th0 th1 th2 th3 th4 (z1, (W_cars u_th), (W_riders u_th), (W_loads u_th), (W_lowest u_th), (W_friction u_th))) := hD
  exact k_vret (u := (z1, (W_cars u_th), (W_riders u_th), (W_loads u_th), (W_lowest u_th), (W_friction u_th))) hx hb hr hlocks hK hS eQ hf hP hD dX9_setWeight_9
theorem hd_X9_friction : yX9_friction.cls ≠ "java/lang/invoke/MethodHandle" ∧ yX9_friction.cls ≠ "java/lang/invoke/VarHandle" ∧ (parseMethodDescriptor yX9_friction.desc).map (fun d => d.parameters.length) = some 0 := by decide +kernel
set_option maxHeartbeats 4000000 in
set_option maxRecDepth 100000 in
theorem c_X9_friction (l : Launch) (D : va_G) (cI cZ : ClassId) (th0 : Nat) (th1 : Nat) (th2 : Nat) (th3 : Nat) (th4 : Nat) (sz : Nat) (u_th : sW) (z : Int32 × Unit) (hf : f_X9_friction u_th = some z) : Met l yX9_friction wsX9_friction rmX9_friction (va_Pc [.ref th0] (wPr D cI cZ (cW cI cZ th0 th1 th2 th3 th4 u_th) sz)) (va_Qi (fun (r : Int32) (v : Unit) => (r, v) = z) (fun (v : Unit) t => wPo D cI cZ (va_A (cW cI cZ th0 th1 th2 th3 th4 u_th) sz) (cW cI cZ th0 th1 th2 th3 th4 u_th) t) (va_A (cW cI cZ th0 th1 th2 th3 th4 u_th) sz)) 0 0 (va_A (cW cI cZ th0 th1 th2 th3 th4 u_th) sz) := by
  refine k_enter (D := D) (cI := cI) (cZ := cZ) (wl := cW cI cZ th0 th1 th2 th3 th4 u_th) (sz := sz) (av := [.ref th0]) (cc := cX9_friction) (maxL := 1) (ret := (some .int)) (Qc := fun A => va_Qi (fun (r : Int32) (v : Unit) => (r, v) = z) (fun (v : Unit) t => wPo D cI cZ (A) (cW cI cZ th0 th1 th2 th3 th4 u_th) t) (A)) (by decide) rfl (Nat.le_of_ble_eq_true rfl) ?_
  intro p e s m below meth c ls A Q H locs eQ hx hb hr hml hts hown hlocks hK hP hD hS hA hE hl
  have hown : s.vm.findClass RX9 = some m.cls := hown
  have hl : lv_has ls 1 [(0, .ref th0)] := hl
  have hi_X9 : ∀ w ∈ wsX90, w ∈ wsX9_friction := fun w h => List.mem_cons_of_mem _ (List.mem_append_right _ h)
  rw [f_X9_friction] at hf
  refine lv_aload_n hx hb dX9_friction_0 rfl (lv_at hl 0 rfl) ?_
  refine va_get (D := D) (ci := 6) (v := .int (W_friction u_th)) (C := RX9) (T := TX9) (N := 6) hx hb hts hi_X9 hown hK hP 0 rfl rfl 5 (by decide) (hts (.fieldLink RX9 28 "FairWheel$Wheel" "friction" "I") (List.mem_of_getElem? (i := 1) rfl)) (fun _ h9 => h9) rfl dX9_friction_1 ?_
  exact k_iret (v := (W_friction u_th)) (u := ()) hx hb hr hlocks hK hS eQ hf hP hD dX9_friction_4
theorem hd_X9_setFriction : yX9_setFriction.cls ≠ "java/lang/invoke/MethodHandle" ∧ yX9_setFriction.cls ≠ "java/lang/invoke/VarHandle" ∧ (parseMethodDescriptor yX9_setFriction.desc).map (fun d => d.parameters.length) = some 1 := by decide +kernel
set_option maxHeartbeats 4000000 in
set_option maxRecDepth 100000 in
theorem c_X9_setFriction (l : Launch) (D : va_G) (cI cZ : ClassId) (th0 : Nat) (th1 : Nat) (th2 : Nat) (th3 : Nat) (th4 : Nat) (sz : Nat) (u_th : sW) (p1 : Int32) (z : sW) (hf : f_X9_setFriction u_th p1 = some z) : Met l yX9_setFriction wsX9_setFriction rmX9_setFriction (va_Pc [.ref th0, .int p1] (wPr D cI cZ (cW cI cZ th0 th1 th2 th3 th4 u_th) sz)) (va_Qv (fun (v : sW) => v = z) (fun (v : sW) t => wPo D cI cZ (va_A (cW cI cZ th0 th1 th2 th3 th4 u_th) sz) (cW cI cZ th0 th1 th2 th3 th4 v) t) (va_A (cW cI cZ th0 th1 th2 th3 th4 u_th) sz)) 0 0 (va_A (cW cI cZ th0 th1 th2 th3 th4 u_th) sz) := by
  refine k_enter (D := D) (cI := cI) (cZ := cZ) (wl := cW cI cZ th0 th1 th2 th3 th4 u_th) (sz := sz) (av := [.ref th0, .int p1]) (cc := cX9_setFriction) (maxL := 2) (ret := none) (Qc := fun A => va_Qv (fun (v : sW) => v = z) (fun (v : sW) t => wPo D cI cZ (A) (cW cI cZ th0 th1 th2 th3 th4 v) t) (A)) (by decide) rfl (Nat.le_of_ble_eq_true rfl) ?_
  intro p e s m below meth c ls A Q H locs eQ hx hb hr hml hts hown hlocks hK hP hD hS hA hE hl
  have hown : s.vm.findClass RX9 = some m.cls := hown
  have hl : lv_has ls 2 [(0, .ref th0), (1, .int p1)] := hl
  have hi_X9 : ∀ w ∈ wsX90, w ∈ wsX9_setFriction := fun w h => List.mem_cons_of_mem _ (List.mem_append_right _ h)
  rw [f_X9_setFriction] at hf
  refine lv_aload_n hx hb dX9_setFriction_0 rfl (lv_at hl 0 rfl) ?_
  refine lv_iload_n hx hb dX9_setFriction_1 rfl (lv_at hl 1 rfl) ?_
  refine va_put (D := D) (ci := 6) (v := .int p1) (ty := .int) (C := RX9) (T := TX9) (N := 6) hx hb hts hi_X9 tyX9 tyX9_ok nmX9 hown hK hP hD hS 0 rfl rfl 5 (by decide) (hts (.fieldLink RX9 28 "FairWheel$Wheel" "friction" "I") (List.mem_of_getElem? (i := 1) rfl)) (fun _ h9 => h9) rfl (by decide +kernel) rfl rfl (Nat.le_of_ble_eq_true rfl) dX9_setFriction_2 (fun H locs hP hD hS => ?_)
  have hP : va_P D vwCl (cW cI cZ th0 th1 th2 th3 th4 ((W_weights u_th), (W_cars u_th), (W_riders u_th), (W_loads u_th), (W_lowest u_th), p1)) H := hP
  have hD : va_D A (cW cI cZ th0 th1 th2 th3 th4 ((W_weights u_th), (W_cars u_th), (W_riders u_th), (W_loads u_th), (W_lowest u_th), p1)) := hD
  exact k_vret (u := ((W_weights u_th), (W_cars u_th), (W_riders u_th), (W_loads u_th), (W_lowest u_th), p1)) hx hb hr hlocks hK hS eQ hf hP hD dX9_setFriction_5
theorem hd_X9_lowest : yX9_lowest.cls ≠ "java/lang/invoke/MethodHandle" ∧ yX9_lowest.cls ≠ "java/lang/invoke/VarHandle" ∧ (parseMethodDescriptor yX9_lowest.desc).map (fun d => d.parameters.length) = some 0 := by decide +kernel
set_option maxHeartbeats 4000000 in
set_option maxRecDepth 100000 in
theorem c_X9_lowest (l : Launch) (D : va_G) (cI cZ : ClassId) (th0 : Nat) (th1 : Nat) (th2 : Nat) (th3 : Nat) (th4 : Nat) (sz : Nat) (u_th : sW) (z : Int32 × Unit) (hf : f_X9_lowest u_th = some z) : Met l yX9_lowest wsX9_lowest rmX9_lowest (va_Pc [.ref th0] (wPr D cI cZ (cW cI cZ th0 th1 th2 th3 th4 u_th) sz)) (va_Qi (fun (r : Int32) (v : Unit) => (r, v) = z) (fun (v : Unit) t => wPo D cI cZ (va_A (cW cI cZ th0 th1 th2 th3 th4 u_th) sz) (cW cI cZ th0 th1 th2 th3 th4 u_th) t) (va_A (cW cI cZ th0 th1 th2 th3 th4 u_th) sz)) 0 0 (va_A (cW cI cZ th0 th1 th2 th3 th4 u_th) sz) := by
  refine k_enter (D := D) (cI := cI) (cZ := cZ) (wl := cW cI cZ th0 th1 th2 th3 th4 u_th) (sz := sz) (av := [.ref th0]) (cc := cX9_lowest) (maxL := 1) (ret := (some .int)) (Qc := fun A => va_Qi (fun (r : Int32) (v : Unit) => (r, v) = z) (fun (v : Unit) t => wPo D cI cZ (A) (cW cI cZ th0 th1 th2 th3 th4 u_th) t) (A)) (by decide) rfl (Nat.le_of_ble_eq_true rfl) ?_
  intro p e s m below meth c ls A Q H locs eQ hx hb hr hml hts hown hlocks hK hP hD hS hA hE hl
  have hown : s.vm.findClass RX9 = some m.cls := hown
  have hl : lv_has ls 1 [(0, .ref th0)] := hl
  have hi_X9 : ∀ w ∈ wsX90, w ∈ wsX9_lowest := fun w h => List.mem_cons_of_mem _ (List.mem_append_right _ h)
  rw [f_X9_lowest] at hf
  refine lv_aload_n hx hb dX9_lowest_0 rfl (lv_at hl 0 rfl) ?_
  refine va_get (D := D) (ci := 6) (v := .int (W_lowest u_th)) (C := RX9) (T := TX9) (N := 6) hx hb hts hi_X9 hown hK hP 0 rfl rfl 4 (by decide) (hts (.fieldLink RX9 24 "FairWheel$Wheel" "lowest" "I") (List.mem_of_getElem? (i := 1) rfl)) (fun _ h9 => h9) rfl dX9_lowest_1 ?_
  exact k_iret (v := (W_lowest u_th)) (u := ()) hx hb hr hlocks hK hS eQ hf hP hD dX9_lowest_4
theorem hd_X9_riderOf : yX9_riderOf.cls ≠ "java/lang/invoke/MethodHandle" ∧ yX9_riderOf.cls ≠ "java/lang/invoke/VarHandle" ∧ (parseMethodDescriptor yX9_riderOf.desc).map (fun d => d.parameters.length) = some 1 := by decide +kernel
set_option maxHeartbeats 4000000 in
set_option maxRecDepth 100000 in
theorem c_X9_riderOf (l : Launch) (D : va_G) (cI cZ : ClassId) (th0 : Nat) (th1 : Nat) (th2 : Nat) (th3 : Nat) (th4 : Nat) (sz : Nat) (u_th : sW) (p1 : Int32) (z : Int32 × Unit) (hf : f_X9_riderOf u_th p1 = some z) : Met l yX9_riderOf wsX9_riderOf rmX9_riderOf (va_Pc [.ref th0, .int p1] (wPr D cI cZ (cW cI cZ th0 th1 th2 th3 th4 u_th) sz)) (va_Qi (fun (r : Int32) (v : Unit) => (r, v) = z) (fun (v : Unit) t => wPo D cI cZ (va_A (cW cI cZ th0 th1 th2 th3 th4 u_th) sz) (cW cI cZ th0 th1 th2 th3 th4 u_th) t) (va_A (cW cI cZ th0 th1 th2 th3 th4 u_th) sz)) 0 0 (va_A (cW cI cZ th0 th1 th2 th3 th4 u_th) sz) := by
  refine k_enter (D := D) (cI := cI) (cZ := cZ) (wl := cW cI cZ th0 th1 th2 th3 th4 u_th) (sz := sz) (av := [.ref th0, .int p1]) (cc := cX9_riderOf) (maxL := 2) (ret := (some .int)) (Qc := fun A => va_Qi (fun (r : Int32) (v : Unit) => (r, v) = z) (fun (v : Unit) t => wPo D cI cZ (A) (cW cI cZ th0 th1 th2 th3 th4 u_th) t) (A)) (by decide) rfl (Nat.le_of_ble_eq_true rfl) ?_
  intro p e s m below meth c ls A Q H locs eQ hx hb hr hml hts hown hlocks hK hP hD hS hA hE hl
  have hown : s.vm.findClass RX9 = some m.cls := hown
  have hl : lv_has ls 2 [(0, .ref th0), (1, .int p1)] := hl
  have hi_X9 : ∀ w ∈ wsX90, w ∈ wsX9_riderOf := fun w h => List.mem_cons_of_mem _ (List.mem_append_right _ h)
  rw [f_X9_riderOf] at hf
  refine lv_aload_n hx hb dX9_riderOf_0 rfl (lv_at hl 0 rfl) ?_
  refine va_get (D := D) (ci := 6) (v := .ref th3) (C := RX9) (T := TX9) (N := 6) hx hb hts hi_X9 hown hK hP 0 rfl rfl 2 (by decide) (hts (.fieldLink RX9 18 "FairWheel$Wheel" "riders" "[I") (List.mem_of_getElem? (i := 1) rfl)) (fun _ h9 => h9) rfl dX9_riderOf_1 ?_
  refine lv_iload_n hx hb dX9_riderOf_4 rfl (lv_at hl 1 rfl) ?_
  obtain ⟨z1, hz_z1, hf⟩ := o_bind hf
  refine k_calli (va_runSN (As := [.ref th3, .int p1]) (rest := []) ⟨hx, hb, hml, hown, hts⟩ (c_X10_at l D cI cZ th3 H.size 8 (W_riders u_th) p1 z1 hz_z1) ⟨va_cnB 2 hts gX9_riderOf_X10_at_n41 rfl rfl rfl (hE.1.1 (RX9, 41, yX10_at) (List.mem_of_getElem? (i := 12) rfl)) (hts (.initialized RX10) (List.mem_of_getElem? (i := 3) rfl)) hd_X10_at ⟨Nat.le_of_ble_eq_true rfl, Nat.le_of_ble_eq_true rfl⟩, hts (.static yX10_at) (List.mem_of_getElem? (i := 2) rfl), trivial⟩ (k_preS hK hP hD hS hA hE [3] (by decide) rfl) rfl rfl hl.1 rfl (lv_room (Nat.le_of_ble_eq_true rfl)) dX9_riderOf_5 ⟨Nat.zero_le _, Nat.zero_le _⟩) hP hD hS hA [3] [none, none, none, some 0, none] 1 rfl (by decide) (by decide) rfl rfl (fun H locs hP hD hS => ?_)
  have hP : va_P D vwCl (cW cI cZ th0 th1 th2 th3 th4 u_th) H := hP
  have hD : va_D A (cW cI cZ th0 th1 th2 th3 th4 u_th) := hD
  exact k_iret (v := z1.1) (u := ()) hx hb hr hlocks hK hS eQ hf hP hD dX9_riderOf_8
theorem hd_X9_carOf : yX9_carOf.cls ≠ "java/lang/invoke/MethodHandle" ∧ yX9_carOf.cls ≠ "java/lang/invoke/VarHandle" ∧ (parseMethodDescriptor yX9_carOf.desc).map (fun d => d.parameters.length) = some 1 := by decide +kernel
set_option maxHeartbeats 4000000 in
set_option maxRecDepth 100000 in
theorem c_X9_carOf (l : Launch) (D : va_G) (cI cZ : ClassId) (th0 : Nat) (th1 : Nat) (th2 : Nat) (th3 : Nat) (th4 : Nat) (sz : Nat) (u_th : sW) (p1 : Int32) (z : Int32 × Unit) (hf : f_X9_carOf u_th p1 = some z) : Met l yX9_carOf wsX9_carOf rmX9_carOf (va_Pc [.ref th0, .int p1] (wPr D cI cZ (cW cI cZ th0 th1 th2 th3 th4 u_th) sz)) (va_Qi (fun (r : Int32) (v : Unit) => (r, v) = z) (fun (v : Unit) t => wPo D cI cZ (va_A (cW cI cZ th0 th1 th2 th3 th4 u_th) sz) (cW cI cZ th0 th1 th2 th3 th4 u_th) t) (va_A (cW cI cZ th0 th1 th2 th3 th4 u_th) sz)) 0 0 (va_A (cW cI cZ th0 th1 th2 th3 th4 u_th) sz) := by
  refine k_enter (D := D) (cI := cI) (cZ := cZ) (wl := cW cI cZ th0 th1 th2 th3 th4 u_th) (sz := sz) (av := [.ref th0, .int p1]) (cc := cX9_carOf) (maxL := 2) (ret := (some .int)) (Qc := fun A => va_Qi (fun (r : Int32) (v : Unit) => (r, v) = z) (fun (v : Unit) t => wPo D cI cZ (A) (cW cI cZ th0 th1 th2 th3 th4 u_th) t) (A)) (by decide) rfl (Nat.le_of_ble_eq_true rfl) ?_
  intro p e s m below meth c ls A Q H locs eQ hx hb hr hml hts hown hlocks hK hP hD hS hA hE hl
  have hown : s.vm.findClass RX9 = some m.cls := hown
  have hl : lv_has ls 2 [(0, .ref th0), (1, .int p1)] := hl
  have hi_X9 : ∀ w ∈ wsX90, w ∈ wsX9_carOf := fun w h => List.mem_cons_of_mem _ (List.mem_append_right _ h)
  rw [f_X9_carOf] at hf
  refine lv_aload_n hx hb dX9_carOf_0 rfl (lv_at hl 0 rfl) ?_
  refine va_get (D := D) (ci := 6) (v := .ref th2) (C := RX9) (T := TX9) (N := 6) hx hb hts hi_X9 hown hK hP 0 rfl rfl 1 (by decide) (hts (.fieldLink RX9 15 "FairWheel$Wheel" "cars" "[I") (List.mem_of_getElem? (i := 1) rfl)) (fun _ h9 => h9) rfl dX9_carOf_1 ?_
  refine lv_iload_n hx hb dX9_carOf_4 rfl (lv_at hl 1 rfl) ?_
  obtain ⟨z1, hz_z1, hf⟩ := o_bind hf
  refine k_calli (va_runSN (As := [.ref th2, .int p1]) (rest := []) ⟨hx, hb, hml, hown, hts⟩ (c_X10_at l D cI cZ th2 H.size 8 (W_cars u_th) p1 z1 hz_z1) ⟨va_cnB 2 hts gX9_carOf_X10_at_n41 rfl rfl rfl (hE.1.1 (RX9, 41, yX10_at) (List.mem_of_getElem? (i := 12) rfl)) (hts (.initialized RX10) (List.mem_of_getElem? (i := 3) rfl)) hd_X10_at ⟨Nat.le_of_ble_eq_true rfl, Nat.le_of_ble_eq_true rfl⟩, hts (.static yX10_at) (List.mem_of_getElem? (i := 2) rfl), trivial⟩ (k_preS hK hP hD hS hA hE [2] (by decide) rfl) rfl rfl hl.1 rfl (lv_room (Nat.le_of_ble_eq_true rfl)) dX9_carOf_5 ⟨Nat.zero_le _, Nat.zero_le _⟩) hP hD hS hA [2] [none, none, some 0, none, none] 1 rfl (by decide) (by decide) rfl rfl (fun H locs hP hD hS => ?_)
  have hP : va_P D vwCl (cW cI cZ th0 th1 th2 th3 th4 u_th) H := hP
  have hD : va_D A (cW cI cZ th0 th1 th2 th3 th4 u_th) := hD
  exact k_iret (v := z1.1) (u := ()) hx hb hr hlocks hK hS eQ hf hP hD dX9_carOf_8
theorem hd_X9_isAboard : yX9_isAboard.cls ≠ "java/lang/invoke/MethodHandle" ∧ yX9_isAboard.cls ≠ "java/lang/invoke/VarHandle" ∧ (parseMethodDescriptor yX9_isAboard.desc).map (fun d => d.parameters.length) = some 1 := by decide +kernel
set_option maxHeartbeats 4000000 in
set_option maxRecDepth 100000 in
theorem c_X9_isAboard (l : Launch) (D : va_G) (cI cZ : ClassId) (th0 : Nat) (th1 : Nat) (th2 : Nat) (th3 : Nat) (th4 : Nat) (sz : Nat) (u_th : sW) (p1 : Int32) (z : Int32 × Unit) (hf : f_X9_isAboard u_th p1 = some z) : Met l yX9_isAboard wsX9_isAboard rmX9_isAboard (va_Pc [.ref th0, .int p1] (wPr D cI cZ (cW cI cZ th0 th1 th2 th3 th4 u_th) sz)) (va_Qi (fun (r : Int32) (v : Unit) => (r, v) = z) (fun (v : Unit) t => wPo D cI cZ (va_A (cW cI cZ th0 th1 th2 th3 th4 u_th) sz) (cW cI cZ th0 th1 th2 th3 th4 u_th) t) (va_A (cW cI cZ th0 th1 th2 th3 th4 u_th) sz)) 0 0 (va_A (cW cI cZ th0 th1 th2 th3 th4 u_th) sz) := by
  refine k_enter (D := D) (cI := cI) (cZ := cZ) (wl := cW cI cZ th0 th1 th2 th3 th4 u_th) (sz := sz) (av := [.ref th0, .int p1]) (cc := cX9_isAboard) (maxL := 2) (ret := (some .boolean)) (Qc := fun A => va_Qi (fun (r : Int32) (v : Unit) => (r, v) = z) (fun (v : Unit) t => wPo D cI cZ (A) (cW cI cZ th0 th1 th2 th3 th4 u_th) t) (A)) (by decide) rfl (Nat.le_of_ble_eq_true rfl) ?_
  intro p e s m below meth c ls A Q H locs eQ hx hb hr hml hts hown hlocks hK hP hD hS hA hE hl
  have hown : s.vm.findClass RX9 = some m.cls := hown
  have hl : lv_has ls 2 [(0, .ref th0), (1, .int p1)] := hl
  have hi_X9 : ∀ w ∈ wsX90, w ∈ wsX9_isAboard := fun w h => List.mem_cons_of_mem _ (List.mem_append_right _ h)
  rw [f_X9_isAboard] at hf
  refine lv_aload_n hx hb dX9_isAboard_0 rfl (lv_at hl 0 rfl) ?_
  refine va_get (D := D) (ci := 6) (v := .ref th2) (C := RX9) (T := TX9) (N := 6) hx hb hts hi_X9 hown hK hP 0 rfl rfl 1 (by decide) (hts (.fieldLink RX9 15 "FairWheel$Wheel" "cars" "[I") (List.mem_of_getElem? (i := 1) rfl)) (fun _ h9 => h9) rfl dX9_isAboard_1 ?_
  refine lv_iload_n hx hb dX9_isAboard_4 rfl (lv_at hl 1 rfl) ?_
  obtain ⟨z1, hz_z1, hf⟩ := o_bind hf
  refine k_calli (va_runSN (As := [.ref th2, .int p1]) (rest := []) ⟨hx, hb, hml, hown, hts⟩ (c_X10_at l D cI cZ th2 H.size 8 (W_cars u_th) p1 z1 hz_z1) ⟨va_cnB 2 hts gX9_isAboard_X10_at_n41 rfl rfl rfl (hE.1.1 (RX9, 41, yX10_at) (List.mem_of_getElem? (i := 12) rfl)) (hts (.initialized RX10) (List.mem_of_getElem? (i := 3) rfl)) hd_X10_at ⟨Nat.le_of_ble_eq_true rfl, Nat.le_of_ble_eq_true rfl⟩, hts (.static yX10_at) (List.mem_of_getElem? (i := 2) rfl), trivial⟩ (k_preS hK hP hD hS hA hE [2] (by decide) rfl) rfl rfl hl.1 rfl (lv_room (Nat.le_of_ble_eq_true rfl)) dX9_isAboard_5 ⟨Nat.zero_le _, Nat.zero_le _⟩) hP hD hS hA [2] [none, none, some 0, none, none] 1 rfl (by decide) (by decide) rfl rfl (fun H locs hP hD hS => ?_)
  have hP : va_P D vwCl (cW cI cZ th0 th1 th2 th3 th4 u_th) H := hP
  have hD : va_D A (cW cI cZ th0 th1 th2 th3 th4 u_th) := hD
  refine lv_bipush (v := -6) hx hb dX9_isAboard_8 (by decide) ?_
  refine lv_icmp_eq (tgt := 17) hx hb dX9_isAboard_10 (by decide) (fun c2 => ?_) (fun c2 => ?_)
  · have hf := (if_pos c2).symm.trans hf
    refine lv_iconst (v := 0) hx hb dX9_isAboard_17 (by decide) ?_
    exact k_zret (v := (0 : Int32)) (u := ()) hx hb hr hlocks hK hS eQ (by decide) hf hP hD dX9_isAboard_18
  · have hf := (if_neg c2).symm.trans hf
    refine lv_iconst (v := 1) hx hb dX9_isAboard_13 (by decide) ?_
    refine lv_goto (tgt := 18) hx hb dX9_isAboard_14 (by decide) ?_
    exact k_zret (v := (1 : Int32)) (u := ()) hx hb hr hlocks hK hS eQ (by decide) hf hP hD dX9_isAboard_18
theorem hd_X9_isLowest : yX9_isLowest.cls ≠ "java/lang/invoke/MethodHandle" ∧ yX9_isLowest.cls ≠ "java/lang/invoke/VarHandle" ∧ (parseMethodDescriptor yX9_isLowest.desc).map (fun d => d.parameters.length) = some 1 := by decide +kernel
set_option maxHeartbeats 4000000 in
set_option maxRecDepth 100000 in
theorem c_X9_isLowest (l : Launch) (D : va_G) (cI cZ : ClassId) (th0 : Nat) (th1 : Nat) (th2 : Nat) (th3 : Nat) (th4 : Nat) (sz : Nat) (u_th : sW) (p1 : Int32) (z : Int32 × Unit) (hf : f_X9_isLowest u_th p1 = some z) : Met l yX9_isLowest wsX9_isLowest rmX9_isLowest (va_Pc [.ref th0, .int p1] (wPr D cI cZ (cW cI cZ th0 th1 th2 th3 th4 u_th) sz)) (va_Qi (fun (r : Int32) (v : Unit) => (r, v) = z) (fun (v : Unit) t => wPo D cI cZ (va_A (cW cI cZ th0 th1 th2 th3 th4 u_th) sz) (cW cI cZ th0 th1 th2 th3 th4 u_th) t) (va_A (cW cI cZ th0 th1 th2 th3 th4 u_th) sz)) 0 0 (va_A (cW cI cZ th0 th1 th2 th3 th4 u_th) sz) := by
  refine k_enter (D := D) (cI := cI) (cZ := cZ) (wl := cW cI cZ th0 th1 th2 th3 th4 u_th) (sz := sz) (av := [.ref th0, .int p1]) (cc := cX9_isLowest) (maxL := 2) (ret := (some .boolean)) (Qc := fun A => va_Qi (fun (r : Int32) (v : Unit) => (r, v) = z) (fun (v : Unit) t => wPo D cI cZ (A) (cW cI cZ th0 th1 th2 th3 th4 u_th) t) (A)) (by decide) rfl (Nat.le_of_ble_eq_true rfl) ?_
  intro p e s m below meth c ls A Q H locs eQ hx hb hr hml hts hown hlocks hK hP hD hS hA hE hl
  have hown : s.vm.findClass RX9 = some m.cls := hown
  have hl : lv_has ls 2 [(0, .ref th0), (1, .int p1)] := hl
  have hi_X9 : ∀ w ∈ wsX90, w ∈ wsX9_isLowest := fun w h => List.mem_cons_of_mem _ (List.mem_append_right _ h)
  rw [f_X9_isLowest] at hf
  refine lv_aload_n hx hb dX9_isLowest_0 rfl (lv_at hl 0 rfl) ?_
  refine va_get (D := D) (ci := 6) (v := .ref th2) (C := RX9) (T := TX9) (N := 6) hx hb hts hi_X9 hown hK hP 0 rfl rfl 1 (by decide) (hts (.fieldLink RX9 15 "FairWheel$Wheel" "cars" "[I") (List.mem_of_getElem? (i := 1) rfl)) (fun _ h9 => h9) rfl dX9_isLowest_1 ?_
  refine lv_iload_n hx hb dX9_isLowest_4 rfl (lv_at hl 1 rfl) ?_
  obtain ⟨z1, hz_z1, hf⟩ := o_bind hf
  refine k_calli (va_runSN (As := [.ref th2, .int p1]) (rest := []) ⟨hx, hb, hml, hown, hts⟩ (c_X10_at l D cI cZ th2 H.size 8 (W_cars u_th) p1 z1 hz_z1) ⟨va_cnB 2 hts gX9_isLowest_X10_at_n41 rfl rfl rfl (hE.1.1 (RX9, 41, yX10_at) (List.mem_of_getElem? (i := 12) rfl)) (hts (.initialized RX10) (List.mem_of_getElem? (i := 4) rfl)) hd_X10_at ⟨Nat.le_of_ble_eq_true rfl, Nat.le_of_ble_eq_true rfl⟩, hts (.static yX10_at) (List.mem_of_getElem? (i := 3) rfl), trivial⟩ (k_preS hK hP hD hS hA hE [2] (by decide) rfl) rfl rfl hl.1 rfl (lv_room (Nat.le_of_ble_eq_true rfl)) dX9_isLowest_5 ⟨Nat.zero_le _, Nat.zero_le _⟩) hP hD hS hA [2] [none, none, some 0, none, none] 1 rfl (by decide) (by decide) rfl rfl (fun H locs hP hD hS => ?_)
  have hP : va_P D vwCl (cW cI cZ th0 th1 th2 th3 th4 u_th) H := hP
  have hD : va_D A (cW cI cZ th0 th1 th2 th3 th4 u_th) := hD
  refine lv_aload_n hx hb dX9_isLowest_8 rfl (lv_at hl 0 rfl) ?_
  refine va_get (D := D) (ci := 6) (v := .int (W_lowest u_th)) (C := RX9) (T := TX9) (N := 6) hx hb hts hi_X9 hown hK hP 0 rfl rfl 4 (by decide) (hts (.fieldLink RX9 24 "FairWheel$Wheel" "lowest" "I") (List.mem_of_getElem? (i := 2) rfl)) (fun _ h9 => h9) rfl dX9_isLowest_9 ?_
  refine lv_icmp_ne (tgt := 19) hx hb dX9_isLowest_12 (by decide) (fun c2 => ?_) (fun c2 => ?_)
  · have hf := (if_neg c2).symm.trans hf
    refine lv_iconst (v := 0) hx hb dX9_isLowest_19 (by decide) ?_
    exact k_zret (v := (0 : Int32)) (u := ()) hx hb hr hlocks hK hS eQ (by decide) hf hP hD dX9_isLowest_20
  · have hf := (if_pos c2).symm.trans hf
    refine lv_iconst (v := 1) hx hb dX9_isLowest_15 (by decide) ?_
    refine lv_goto (tgt := 20) hx hb dX9_isLowest_16 (by decide) ?_
    exact k_zret (v := (1 : Int32)) (u := ()) hx hb hr hlocks hK hS eQ (by decide) hf hP hD dX9_isLowest_20
theorem hd_X9_isTaken : yX9_isTaken.cls ≠ "java/lang/invoke/MethodHandle" ∧ yX9_isTaken.cls ≠ "java/lang/invoke/VarHandle" ∧ (parseMethodDescriptor yX9_isTaken.desc).map (fun d => d.parameters.length) = some 0 := by decide +kernel
set_option maxHeartbeats 4000000 in
set_option maxRecDepth 100000 in
theorem c_X9_isTaken (l : Launch) (D : va_G) (cI cZ : ClassId) (th0 : Nat) (th1 : Nat) (th2 : Nat) (th3 : Nat) (th4 : Nat) (sz : Nat) (u_th : sW) (z : Int32 × Unit) (hf : f_X9_isTaken u_th = some z) : Met l yX9_isTaken wsX9_isTaken rmX9_isTaken (va_Pc [.ref th0] (wPr D cI cZ (cW cI cZ th0 th1 th2 th3 th4 u_th) sz)) (va_Qi (fun (r : Int32) (v : Unit) => (r, v) = z) (fun (v : Unit) t => wPo D cI cZ (va_A (cW cI cZ th0 th1 th2 th3 th4 u_th) sz) (cW cI cZ th0 th1 th2 th3 th4 u_th) t) (va_A (cW cI cZ th0 th1 th2 th3 th4 u_th) sz)) 0 0 (va_A (cW cI cZ th0 th1 th2 th3 th4 u_th) sz) := by
  refine k_enter (D := D) (cI := cI) (cZ := cZ) (wl := cW cI cZ th0 th1 th2 th3 th4 u_th) (sz := sz) (av := [.ref th0]) (cc := cX9_isTaken) (maxL := 1) (ret := (some .boolean)) (Qc := fun A => va_Qi (fun (r : Int32) (v : Unit) => (r, v) = z) (fun (v : Unit) t => wPo D cI cZ (A) (cW cI cZ th0 th1 th2 th3 th4 u_th) t) (A)) (by decide) rfl (Nat.le_of_ble_eq_true rfl) ?_
  intro p e s m below meth c ls A Q H locs eQ hx hb hr hml hts hown hlocks hK hP hD hS hA hE hl
  have hown : s.vm.findClass RX9 = some m.cls := hown
  have hl : lv_has ls 1 [(0, .ref th0)] := hl
  have hi_X9 : ∀ w ∈ wsX90, w ∈ wsX9_isTaken := fun w h => List.mem_cons_of_mem _ (List.mem_append_right _ h)
  rw [f_X9_isTaken] at hf
  refine lv_aload_n hx hb dX9_isTaken_0 rfl (lv_at hl 0 rfl) ?_
  refine va_get (D := D) (ci := 6) (v := .ref th3) (C := RX9) (T := TX9) (N := 6) hx hb hts hi_X9 hown hK hP 0 rfl rfl 2 (by decide) (hts (.fieldLink RX9 18 "FairWheel$Wheel" "riders" "[I") (List.mem_of_getElem? (i := 1) rfl)) (fun _ h9 => h9) rfl dX9_isTaken_1 ?_
  refine lv_aload_n hx hb dX9_isTaken_4 rfl (lv_at hl 0 rfl) ?_
  refine va_get (D := D) (ci := 6) (v := .int (W_lowest u_th)) (C := RX9) (T := TX9) (N := 6) hx hb hts hi_X9 hown hK hP 0 rfl rfl 4 (by decide) (hts (.fieldLink RX9 24 "FairWheel$Wheel" "lowest" "I") (List.mem_of_getElem? (i := 2) rfl)) (fun _ h9 => h9) rfl dX9_isTaken_5 ?_
  obtain ⟨z1, hz_z1, hf⟩ := o_bind hf
  refine k_calli (va_runSN (As := [.ref th3, .int (W_lowest u_th)]) (rest := []) ⟨hx, hb, hml, hown, hts⟩ (c_X10_at l D cI cZ th3 H.size 8 (W_riders u_th) (W_lowest u_th) z1 hz_z1) ⟨va_cnB 2 hts gX9_isTaken_X10_at_n41 rfl rfl rfl (hE.1.1 (RX9, 41, yX10_at) (List.mem_of_getElem? (i := 12) rfl)) (hts (.initialized RX10) (List.mem_of_getElem? (i := 4) rfl)) hd_X10_at ⟨Nat.le_of_ble_eq_true rfl, Nat.le_of_ble_eq_true rfl⟩, hts (.static yX10_at) (List.mem_of_getElem? (i := 3) rfl), trivial⟩ (k_preS hK hP hD hS hA hE [3] (by decide) rfl) rfl rfl hl.1 rfl (lv_room (Nat.le_of_ble_eq_true rfl)) dX9_isTaken_8 ⟨Nat.zero_le _, Nat.zero_le _⟩) hP hD hS hA [3] [none, none, none, some 0, none] 1 rfl (by decide) (by decide) rfl rfl (fun H locs hP hD hS => ?_)
  have hP : va_P D vwCl (cW cI cZ th0 th1 th2 th3 th4 u_th) H := hP
  have hD : va_D A (cW cI cZ th0 th1 th2 th3 th4 u_th) := hD
  refine lv_bipush (v := -6) hx hb dX9_isTaken_11 (by decide) ?_
  refine lv_icmp_eq (tgt := 20) hx hb dX9_isTaken_13 (by decide) (fun c2 => ?_) (fun c2 => ?_)
  · have hf := (if_pos c2).symm.trans hf
    refine lv_iconst (v := 0) hx hb dX9_isTaken_20 (by decide) ?_
    exact k_zret (v := (0 : Int32)) (u := ()) hx hb hr hlocks hK hS eQ (by decide) hf hP hD dX9_isTaken_21
  · have hf := (if_neg c2).symm.trans hf
    refine lv_iconst (v := 1) hx hb dX9_isTaken_16 (by decide) ?_
    refine lv_goto (tgt := 21) hx hb dX9_isTaken_17 (by decide) ?_
    exact k_zret (v := (1 : Int32)) (u := ()) hx hb hr hlocks hK hS eQ (by decide) hf hP hD dX9_isTaken_21
theorem hd_X9_loadOf : yX9_loadOf.cls ≠ "java/lang/invoke/MethodHandle" ∧ yX9_loadOf.cls ≠ "java/lang/invoke/VarHandle" ∧ (parseMethodDescriptor yX9_loadOf.desc).map (fun d => d.parameters.length) = some 1 := by decide +kernel
set_option maxHeartbeats 4000000 in
set_option maxRecDepth 100000 in
theorem c_X9_loadOf (l : Launch) (D : va_G) (cI cZ : ClassId) (th0 : Nat) (th1 : Nat) (th2 : Nat) (th3 : Nat) (th4 : Nat) (sz : Nat) (u_th : sW) (p1 : Int32) (z : Int32 × Unit) (hf : f_X9_loadOf u_th p1 = some z) : Met l yX9_loadOf wsX9_loadOf rmX9_loadOf (va_Pc [.ref th0, .int p1] (wPr D cI cZ (cW cI cZ th0 th1 th2 th3 th4 u_th) sz)) (va_Qi (fun (r : Int32) (v : Unit) => (r, v) = z) (fun (v : Unit) t => wPo D cI cZ (va_A (cW cI cZ th0 th1 th2 th3 th4 u_th) sz) (cW cI cZ th0 th1 th2 th3 th4 u_th) t) (va_A (cW cI cZ th0 th1 th2 th3 th4 u_th) sz)) 0 0 (va_A (cW cI cZ th0 th1 th2 th3 th4 u_th) sz) := by
  refine k_enter (D := D) (cI := cI) (cZ := cZ) (wl := cW cI cZ th0 th1 th2 th3 th4 u_th) (sz := sz) (av := [.ref th0, .int p1]) (cc := cX9_loadOf) (maxL := 2) (ret := (some .int)) (Qc := fun A => va_Qi (fun (r : Int32) (v : Unit) => (r, v) = z) (fun (v : Unit) t => wPo D cI cZ (A) (cW cI cZ th0 th1 th2 th3 th4 u_th) t) (A)) (by decide) rfl (Nat.le_of_ble_eq_true rfl) ?_
  intro p e s m below meth c ls A Q H locs eQ hx hb hr hml hts hown hlocks hK hP hD hS hA hE hl
  have hown : s.vm.findClass RX9 = some m.cls := hown
  have hl : lv_has ls 2 [(0, .ref th0), (1, .int p1)] := hl
  have hi_X9 : ∀ w ∈ wsX90, w ∈ wsX9_loadOf := fun w h => List.mem_cons_of_mem _ (List.mem_append_right _ h)
  rw [f_X9_loadOf] at hf
  refine lv_aload_n hx hb dX9_loadOf_0 rfl (lv_at hl 0 rfl) ?_
  refine va_get (D := D) (ci := 6) (v := .ref th4) (C := RX9) (T := TX9) (N := 6) hx hb hts hi_X9 hown hK hP 0 rfl rfl 3 (by decide) (hts (.fieldLink RX9 21 "FairWheel$Wheel" "loads" "[I") (List.mem_of_getElem? (i := 1) rfl)) (fun _ h9 => h9) rfl dX9_loadOf_1 ?_
  refine lv_iload_n hx hb dX9_loadOf_4 rfl (lv_at hl 1 rfl) ?_
  obtain ⟨z1, hz_z1, hf⟩ := o_bind hf
  refine k_calli (va_runSN (As := [.ref th4, .int p1]) (rest := []) ⟨hx, hb, hml, hown, hts⟩ (c_X10_at l D cI cZ th4 H.size 8 (W_loads u_th) p1 z1 hz_z1) ⟨va_cnB 2 hts gX9_loadOf_X10_at_n41 rfl rfl rfl (hE.1.1 (RX9, 41, yX10_at) (List.mem_of_getElem? (i := 12) rfl)) (hts (.initialized RX10) (List.mem_of_getElem? (i := 3) rfl)) hd_X10_at ⟨Nat.le_of_ble_eq_true rfl, Nat.le_of_ble_eq_true rfl⟩, hts (.static yX10_at) (List.mem_of_getElem? (i := 2) rfl), trivial⟩ (k_preS hK hP hD hS hA hE [4] (by decide) rfl) rfl rfl hl.1 rfl (lv_room (Nat.le_of_ble_eq_true rfl)) dX9_loadOf_5 ⟨Nat.zero_le _, Nat.zero_le _⟩) hP hD hS hA [4] [none, none, none, none, some 0] 1 rfl (by decide) (by decide) rfl rfl (fun H locs hP hD hS => ?_)
  have hP : va_P D vwCl (cW cI cZ th0 th1 th2 th3 th4 u_th) H := hP
  have hD : va_D A (cW cI cZ th0 th1 th2 th3 th4 u_th) := hD
  exact k_iret (v := z1.1) (u := ()) hx hb hr hlocks hK hS eQ hf hP hD dX9_loadOf_8
theorem hd_X9_setLoad : yX9_setLoad.cls ≠ "java/lang/invoke/MethodHandle" ∧ yX9_setLoad.cls ≠ "java/lang/invoke/VarHandle" ∧ (parseMethodDescriptor yX9_setLoad.desc).map (fun d => d.parameters.length) = some 2 := by decide +kernel
set_option maxHeartbeats 4000000 in
set_option maxRecDepth 100000 in
theorem c_X9_setLoad (l : Launch) (D : va_G) (cI cZ : ClassId) (th0 : Nat) (th1 : Nat) (th2 : Nat) (th3 : Nat) (th4 : Nat) (sz : Nat) (u_th : sW) (p1 : Int32) (p2 : Int32) (z : sW) (hf : f_X9_setLoad u_th p1 p2 = some z) : Met l yX9_setLoad wsX9_setLoad rmX9_setLoad (va_Pc [.ref th0, .int p1, .int p2] (wPr D cI cZ (cW cI cZ th0 th1 th2 th3 th4 u_th) sz)) (va_Qv (fun (v : sW) => v = z) (fun (v : sW) t => wPo D cI cZ (va_A (cW cI cZ th0 th1 th2 th3 th4 u_th) sz) (cW cI cZ th0 th1 th2 th3 th4 v) t) (va_A (cW cI cZ th0 th1 th2 th3 th4 u_th) sz)) 0 0 (va_A (cW cI cZ th0 th1 th2 th3 th4 u_th) sz) := by
  refine k_enter (D := D) (cI := cI) (cZ := cZ) (wl := cW cI cZ th0 th1 th2 th3 th4 u_th) (sz := sz) (av := [.ref th0, .int p1, .int p2]) (cc := cX9_setLoad) (maxL := 3) (ret := none) (Qc := fun A => va_Qv (fun (v : sW) => v = z) (fun (v : sW) t => wPo D cI cZ (A) (cW cI cZ th0 th1 th2 th3 th4 v) t) (A)) (by decide) rfl (Nat.le_of_ble_eq_true rfl) ?_
  intro p e s m below meth c ls A Q H locs eQ hx hb hr hml hts hown hlocks hK hP hD hS hA hE hl
  have hown : s.vm.findClass RX9 = some m.cls := hown
  have hl : lv_has ls 3 [(0, .ref th0), (1, .int p1), (2, .int p2)] := hl
  have hi_X9 : ∀ w ∈ wsX90, w ∈ wsX9_setLoad := fun w h => List.mem_cons_of_mem _ (List.mem_append_right _ h)
  rw [f_X9_setLoad] at hf
  refine lv_aload_n hx hb dX9_setLoad_0 rfl (lv_at hl 0 rfl) ?_
  refine va_get (D := D) (ci := 6) (v := .ref th4) (C := RX9) (T := TX9) (N := 6) hx hb hts hi_X9 hown hK hP 0 rfl rfl 3 (by decide) (hts (.fieldLink RX9 21 "FairWheel$Wheel" "loads" "[I") (List.mem_of_getElem? (i := 1) rfl)) (fun _ h9 => h9) rfl dX9_setLoad_1 ?_
  refine lv_iload_n hx hb dX9_setLoad_4 rfl (lv_at hl 1 rfl) ?_
  refine lv_iload_n hx hb dX9_setLoad_5 rfl (lv_at hl 2 rfl) ?_
  obtain ⟨z1, hz_z1, hf⟩ := o_bind hf
  refine k_callv (va_runSN (As := [.ref th4, .int p1, .int p2]) (rest := []) ⟨hx, hb, hml, hown, hts⟩ (c_X10_put l D cI cZ th4 H.size 8 (W_loads u_th) p1 p2 z1 hz_z1) ⟨va_cnB 3 hts gX9_setLoad_X10_put_n45 rfl rfl rfl (hE.1.1 (RX9, 45, yX10_put) (List.mem_of_getElem? (i := 13) rfl)) (hts (.initialized RX10) (List.mem_of_getElem? (i := 3) rfl)) hd_X10_put ⟨Nat.le_of_ble_eq_true rfl, Nat.le_of_ble_eq_true rfl⟩, hts (.static yX10_put) (List.mem_of_getElem? (i := 2) rfl), trivial⟩ (k_preS hK hP hD hS hA hE [4] (by decide) rfl) rfl rfl hl.1 rfl (lv_room (Nat.le_of_ble_eq_true rfl)) dX9_setLoad_6 ⟨Nat.zero_le _, Nat.zero_le _⟩) hP hD hS hA [4] [none, none, none, none, some 0] 1 rfl (by decide) (by decide) rfl rfl (fun H locs hP hD hS => ?_)
  have hP : va_P D vwCl (cW cI cZ th0 th1 th2 th3 th4 ((W_weights u_th), (W_cars u_th), (W_riders u_th), z1, (W_lowest u_th), (W_friction u_th))) H := hP
  have hD : va_D A (cW cI cZ th0 th1 th2 th3 th4 ((W_weights u_th), (W_cars u_th), (W_riders u_th), z1, (W_lowest u_th), (W_friction u_th))) := hD
  exact k_vret (u := ((W_weights u_th), (W_cars u_th), (W_riders u_th), z1, (W_lowest u_th), (W_friction u_th))) hx hb hr hlocks hK hS eQ hf hP hD dX9_setLoad_9
theorem hd_X9_placeOf : yX9_placeOf.cls ≠ "java/lang/invoke/MethodHandle" ∧ yX9_placeOf.cls ≠ "java/lang/invoke/VarHandle" ∧ (parseMethodDescriptor yX9_placeOf.desc).map (fun d => d.parameters.length) = some 1 := by decide +kernel
set_option maxHeartbeats 4000000 in
set_option maxRecDepth 100000 in
theorem c_X9_placeOf (l : Launch) (D : va_G) (cI cZ : ClassId) (th0 : Nat) (th1 : Nat) (th2 : Nat) (th3 : Nat) (th4 : Nat) (sz : Nat) (u_th : sW) (p1 : Int32) (z : Int32 × Unit) (hf : f_X9_placeOf u_th p1 = some z) : Met l yX9_placeOf wsX9_placeOf rmX9_placeOf (va_Pc [.ref th0, .int p1] (wPr D cI cZ (cW cI cZ th0 th1 th2 th3 th4 u_th) sz)) (va_Qi (fun (r : Int32) (v : Unit) => (r, v) = z) (fun (v : Unit) t => wPo D cI cZ (va_A (cW cI cZ th0 th1 th2 th3 th4 u_th) sz) (cW cI cZ th0 th1 th2 th3 th4 u_th) t) (va_A (cW cI cZ th0 th1 th2 th3 th4 u_th) sz)) 0 0 (va_A (cW cI cZ th0 th1 th2 th3 th4 u_th) sz) := by
  refine k_enter (D := D) (cI := cI) (cZ := cZ) (wl := cW cI cZ th0 th1 th2 th3 th4 u_th) (sz := sz) (av := [.ref th0, .int p1]) (cc := cX9_placeOf) (maxL := 2) (ret := (some .int)) (Qc := fun A => va_Qi (fun (r : Int32) (v : Unit) => (r, v) = z) (fun (v : Unit) t => wPo D cI cZ (A) (cW cI cZ th0 th1 th2 th3 th4 u_th) t) (A)) (by decide) rfl (Nat.le_of_ble_eq_true rfl) ?_
  intro p e s m below meth c ls A Q H locs eQ hx hb hr hml hts hown hlocks hK hP hD hS hA hE hl
  have hown : s.vm.findClass RX9 = some m.cls := hown
  have hl : lv_has ls 2 [(0, .ref th0), (1, .int p1)] := hl
  have hi_X9 : ∀ w ∈ wsX90, w ∈ wsX9_placeOf := fun w h => List.mem_cons_of_mem _ (List.mem_append_right _ h)
  rw [f_X9_placeOf] at hf
  refine lv_iload_n hx hb dX9_placeOf_0 rfl (lv_at hl 1 rfl) ?_
  refine lv_aload_n hx hb dX9_placeOf_1 rfl (lv_at hl 0 rfl) ?_
  refine va_get (D := D) (ci := 6) (v := .int (W_lowest u_th)) (C := RX9) (T := TX9) (N := 6) hx hb hts hi_X9 hown hK hP 0 rfl rfl 4 (by decide) (hts (.fieldLink RX9 24 "FairWheel$Wheel" "lowest" "I") (List.mem_of_getElem? (i := 1) rfl)) (fun _ h9 => h9) rfl dX9_placeOf_2 ?_
  refine lv_isub hx hb dX9_placeOf_5 ?_
  refine lv_bipush (v := 8) hx hb dX9_placeOf_6 (by decide) ?_
  obtain ⟨z1, hz_z1, hf⟩ := o_bind hf
  refine k_calli (va_runS (As := [.int (p1 - (W_lowest u_th)), .int (8 : Int32)]) (rest := []) ⟨hx, hb, hml, hown, hts⟩ (c_J9_floorMod_7cf53 l D cI cZ  H.size (p1 - (W_lowest u_th)) (8 : Int32) z1 hz_z1) (va_cwS 2 hts gX9_placeOf_J9_floorMod_7cf53 rfl rfl rfl hd_J9_floorMod_7cf53 ⟨Nat.le_of_ble_eq_true rfl, Nat.le_of_ble_eq_true rfl⟩) (k_preS hK hP hD hS hA hE [] (by decide) rfl) rfl rfl hl.1 rfl (lv_room (Nat.le_of_ble_eq_true rfl)) dX9_placeOf_8 ⟨Nat.zero_le _, Nat.zero_le _⟩) hP hD hS hA [] [none, none, none, none, none] 0 rfl (by decide) (by decide) rfl rfl (fun H locs hP hD hS => ?_)
  have hP : va_P D vwCl (cW cI cZ th0 th1 th2 th3 th4 u_th) H := hP
  have hD : va_D A (cW cI cZ th0 th1 th2 th3 th4 u_th) := hD
  exact k_iret (v := z1.1) (u := ()) hx hb hr hlocks hK hS eQ hf hP hD dX9_placeOf_11
theorem hd_X9_takenCars : yX9_takenCars.cls ≠ "java/lang/invoke/MethodHandle" ∧ yX9_takenCars.cls ≠ "java/lang/invoke/VarHandle" ∧ (parseMethodDescriptor yX9_takenCars.desc).map (fun d => d.parameters.length) = some 0 := by decide +kernel
set_option maxHeartbeats 4000000 in
set_option maxRecDepth 100000 in
theorem c_X9_takenCars (l : Launch) (D : va_G) (cI cZ : ClassId) (th0 : Nat) (th1 : Nat) (th2 : Nat) (th3 : Nat) (th4 : Nat) (sz : Nat) (u_th : sW) (z : Int32 × Unit) (hf : f_X9_takenCars u_th = some z) : Met l yX9_takenCars wsX9_takenCars rmX9_takenCars (va_Pc [.ref th0] (wPr D cI cZ (cW cI cZ th0 th1 th2 th3 th4 u_th) sz)) (va_Qi (fun (r : Int32) (v : Unit) => (r, v) = z) (fun (v : Unit) t => wPo D cI cZ (va_A (cW cI cZ th0 th1 th2 th3 th4 u_th) sz) (cW cI cZ th0 th1 th2 th3 th4 u_th) t) (va_A (cW cI cZ th0 th1 th2 th3 th4 u_th) sz)) 0 0 (va_A (cW cI cZ th0 th1 th2 th3 th4 u_th) sz) := by
  refine k_enter (D := D) (cI := cI) (cZ := cZ) (wl := cW cI cZ th0 th1 th2 th3 th4 u_th) (sz := sz) (av := [.ref th0]) (cc := cX9_takenCars) (maxL := 3) (ret := (some .int)) (Qc := fun A => va_Qi (fun (r : Int32) (v : Unit) => (r, v) = z) (fun (v : Unit) t => wPo D cI cZ (A) (cW cI cZ th0 th1 th2 th3 th4 u_th) t) (A)) (by decide) rfl (Nat.le_of_ble_eq_true rfl) ?_
  intro p e s m below meth c ls A Q H locs eQ hx hb hr hml hts hown hlocks hK hP hD hS hA hE hl
  have hown : s.vm.findClass RX9 = some m.cls := hown
  have hl : lv_has ls 3 [(0, .ref th0)] := hl
  have hi_X9 : ∀ w ∈ wsX90, w ∈ wsX9_takenCars := fun w h => List.mem_cons_of_mem _ (List.mem_append_right _ h)
  have hL4 : ∀ (n : Nat), ∀ (v1 : Int32) (v2 : Int32) (H : Heap) (locs : List Loc) (ls : Array Slot), lv_has ls 3 [(0, .ref th0), (1, .int v1), (2, .int v2)] → va_P D vwCl (cW cI cZ th0 th1 th2 th3 th4 u_th) H → va_D A (cW cI cZ th0 th1 th2 th3 th4 u_th) → va_S A s.heap H locs → f_X9_takenCars_L4 u_th n v1 v2 = some z → W p l e (headSpec wsX9_takenCars rmX9_takenCars).room s m ([.ref th0] : List Value).toArray below meth c H locs 0 0 Q (F0 m 4 ls []) := by
    intro n
    induction n with
    | zero =>
      intro v1 v2 H locs ls hl hP hD hS hf
      exact absurd (show (none : Option (Int32 × Unit)) = some z from hf) (fun h => by cases h)
    | succ n ih =>
      intro v1 v2 H locs ls hl hP hD hS hf
      rw [f_X9_takenCars_L4] at hf
      refine lv_iload_n hx hb dX9_takenCars_4 rfl (lv_at hl 2 rfl) ?_
      refine lv_bipush (v := 8) hx hb dX9_takenCars_5 (by decide) ?_
      refine lv_icmp_ge (tgt := 35) hx hb dX9_takenCars_7 (by decide) (fun c1 => ?_) (fun c1 => ?_)
      · have hf := (if_pos c1).symm.trans hf
        refine lv_iload_n hx hb dX9_takenCars_35 rfl (lv_at hl 1 rfl) ?_
        exact k_iret (v := v1) (u := ()) hx hb hr hlocks hK hS eQ hf hP hD dX9_takenCars_36
      · have hf := (if_neg c1).symm.trans hf
        refine lv_aload_n hx hb dX9_takenCars_10 rfl (lv_at hl 0 rfl) ?_
        refine va_get (D := D) (ci := 6) (v := .ref th3) (C := RX9) (T := TX9) (N := 6) hx hb hts hi_X9 hown hK hP 0 rfl rfl 2 (by decide) (hts (.fieldLink RX9 18 "FairWheel$Wheel" "riders" "[I") (List.mem_of_getElem? (i := 1) rfl)) (fun _ h9 => h9) rfl dX9_takenCars_11 ?_
        refine lv_iload_n hx hb dX9_takenCars_14 rfl (lv_at hl 2 rfl) ?_
        obtain ⟨z2, hz_z2, hf⟩ := o_bind hf
        refine k_calli (va_runSN (As := [.ref th3, .int v2]) (rest := []) ⟨hx, hb, hml, hown, hts⟩ (c_X10_at l D cI cZ th3 H.size 8 (W_riders u_th) v2 z2 hz_z2) ⟨va_cnB 2 hts gX9_takenCars_X10_at_n41 rfl rfl rfl (hE.1.1 (RX9, 41, yX10_at) (List.mem_of_getElem? (i := 12) rfl)) (hts (.initialized RX10) (List.mem_of_getElem? (i := 3) rfl)) hd_X10_at ⟨Nat.le_of_ble_eq_true rfl, Nat.le_of_ble_eq_true rfl⟩, hts (.static yX10_at) (List.mem_of_getElem? (i := 2) rfl), trivial⟩ (k_preS hK hP hD hS hA hE [3] (by decide) rfl) rfl rfl hl.1 rfl (lv_room (Nat.le_of_ble_eq_true rfl)) dX9_takenCars_15 ⟨Nat.zero_le _, Nat.zero_le _⟩) hP hD hS hA [3] [none, none, none, some 0, none] 1 rfl (by decide) (by decide) rfl rfl (fun H locs hP hD hS => ?_)
        have hP : va_P D vwCl (cW cI cZ th0 th1 th2 th3 th4 u_th) H := hP
        have hD : va_D A (cW cI cZ th0 th1 th2 th3 th4 u_th) := hD
        refine lv_bipush (v := -6) hx hb dX9_takenCars_18 (by decide) ?_
        refine lv_icmp_eq (tgt := 29) hx hb dX9_takenCars_20 (by decide) (fun c3 => ?_) (fun c3 => ?_)
        · have hf := (if_pos c3).symm.trans hf
          refine lv_iinc (v := (v2 + (1 : Int32))) (lv' := [(2, .int (v2 + (1 : Int32))), (0, .ref th0), (1, .int v1)]) hx hb dX9_takenCars_29 hl (k := 2) rfl rfl (by decide) rfl (fun ls hl => ?_)
          refine lv_goto (tgt := 4) hx hb dX9_takenCars_32 (by decide) ?_
          exact ih v1 (v2 + (1 : Int32)) _ _ ls (lv_sub hl [1, 2, 0] rfl) hP hD hS hf
        · have hf := (if_neg c3).symm.trans hf
          refine lv_iload_n hx hb dX9_takenCars_23 rfl (lv_at hl 1 rfl) ?_
          refine lv_iconst (v := 1) hx hb dX9_takenCars_24 (by decide) ?_
          refine lv_iload_n hx hb dX9_takenCars_25 rfl (lv_at hl 2 rfl) ?_
          refine lv_ishl hx hb dX9_takenCars_26 ?_
          refine lv_ior hx hb dX9_takenCars_27 ?_
          refine lv_istore_n (lv' := [(1, .int (v1 ||| ((1 : Int32) <<< (v2 &&& 31)))), (0, .ref th0), (2, .int v2)]) hx hb dX9_takenCars_28 rfl hl (by decide) rfl (fun ls hl => ?_)
          refine lv_iinc (v := (v2 + (1 : Int32))) (lv' := [(2, .int (v2 + (1 : Int32))), (1, .int (v1 ||| ((1 : Int32) <<< (v2 &&& 31)))), (0, .ref th0)]) hx hb dX9_takenCars_29 hl (k := 2) rfl rfl (by decide) rfl (fun ls hl => ?_)
          refine lv_goto (tgt := 4) hx hb dX9_takenCars_32 (by decide) ?_
          exact ih (v1 ||| ((1 : Int32) <<< (v2 &&& 31))) (v2 + (1 : Int32)) _ _ ls (lv_sub hl [2, 1, 0] rfl) hP hD hS hf
  rw [f_X9_takenCars] at hf
  refine lv_iconst (v := 0) hx hb dX9_takenCars_0 (by decide) ?_
  refine lv_istore_n (lv' := [(1, .int (0 : Int32)), (0, .ref th0)]) hx hb dX9_takenCars_1 rfl hl (by decide) rfl (fun ls hl => ?_)
  refine lv_iconst (v := 0) hx hb dX9_takenCars_2 (by decide) ?_
  refine lv_istore_n (lv' := [(2, .int (0 : Int32)), (1, .int (0 : Int32)), (0, .ref th0)]) hx hb dX9_takenCars_3 rfl hl (by decide) rfl (fun ls hl => ?_)
  exact hL4 oF (0 : Int32) (0 : Int32) _ _ ls (lv_sub hl [2, 1, 0] rfl) hP hD hS hf
theorem hd_X9_seat : yX9_seat.cls ≠ "java/lang/invoke/MethodHandle" ∧ yX9_seat.cls ≠ "java/lang/invoke/VarHandle" ∧ (parseMethodDescriptor yX9_seat.desc).map (fun d => d.parameters.length) = some 2 := by decide +kernel
set_option maxHeartbeats 4000000 in
set_option maxRecDepth 100000 in
theorem c_X9_seat (l : Launch) (D : va_G) (cI cZ : ClassId) (th0 : Nat) (th1 : Nat) (th2 : Nat) (th3 : Nat) (th4 : Nat) (sz : Nat) (u_th : sW) (p1 : Int32) (p2 : Int32) (z : sW) (hf : f_X9_seat u_th p1 p2 = some z) : Met l yX9_seat wsX9_seat rmX9_seat (va_Pc [.ref th0, .int p1, .int p2] (wPr D cI cZ (cW cI cZ th0 th1 th2 th3 th4 u_th) sz)) (va_Qv (fun (v : sW) => v = z) (fun (v : sW) t => wPo D cI cZ (va_A (cW cI cZ th0 th1 th2 th3 th4 u_th) sz) (cW cI cZ th0 th1 th2 th3 th4 v) t) (va_A (cW cI cZ th0 th1 th2 th3 th4 u_th) sz)) 0 0 (va_A (cW cI cZ th0 th1 th2 th3 th4 u_th) sz) := by
  refine k_enter (D := D) (cI := cI) (cZ := cZ) (wl := cW cI cZ th0 th1 th2 th3 th4 u_th) (sz := sz) (av := [.ref th0, .int p1, .int p2]) (cc := cX9_seat) (maxL := 3) (ret := none) (Qc := fun A => va_Qv (fun (v : sW) => v = z) (fun (v : sW) t => wPo D cI cZ (A) (cW cI cZ th0 th1 th2 th3 th4 v) t) (A)) (by decide) rfl (Nat.le_of_ble_eq_true rfl) ?_
  intro p e s m below meth c ls A Q H locs eQ hx hb hr hml hts hown hlocks hK hP hD hS hA hE hl
  have hown : s.vm.findClass RX9 = some m.cls := hown
  have hl : lv_has ls 3 [(0, .ref th0), (1, .int p1), (2, .int p2)] := hl
  have hi_X9 : ∀ w ∈ wsX90, w ∈ wsX9_seat := fun w h => List.mem_cons_of_mem _ (List.mem_append_right _ h)
  rw [f_X9_seat] at hf
  refine lv_aload_n hx hb dX9_seat_0 rfl (lv_at hl 0 rfl) ?_
  refine va_get (D := D) (ci := 6) (v := .ref th3) (C := RX9) (T := TX9) (N := 6) hx hb hts hi_X9 hown hK hP 0 rfl rfl 2 (by decide) (hts (.fieldLink RX9 18 "FairWheel$Wheel" "riders" "[I") (List.mem_of_getElem? (i := 1) rfl)) (fun _ h9 => h9) rfl dX9_seat_1 ?_
  refine lv_iload_n hx hb dX9_seat_4 rfl (lv_at hl 2 rfl) ?_
  refine lv_iload_n hx hb dX9_seat_5 rfl (lv_at hl 1 rfl) ?_
  obtain ⟨z1, hz_z1, hf⟩ := o_bind hf
  refine k_callv (va_runSN (As := [.ref th3, .int p2, .int p1]) (rest := []) ⟨hx, hb, hml, hown, hts⟩ (c_X10_put l D cI cZ th3 H.size 8 (W_riders u_th) p2 p1 z1 hz_z1) ⟨va_cnB 3 hts gX9_seat_X10_put_n45 rfl rfl rfl (hE.1.1 (RX9, 45, yX10_put) (List.mem_of_getElem? (i := 13) rfl)) (hts (.initialized RX10) (List.mem_of_getElem? (i := 4) rfl)) hd_X10_put ⟨Nat.le_of_ble_eq_true rfl, Nat.le_of_ble_eq_true rfl⟩, hts (.static yX10_put) (List.mem_of_getElem? (i := 3) rfl), trivial⟩ (k_preS hK hP hD hS hA hE [3] (by decide) rfl) rfl rfl hl.1 rfl (lv_room (Nat.le_of_ble_eq_true rfl)) dX9_seat_6 ⟨Nat.zero_le _, Nat.zero_le _⟩) hP hD hS hA [3] [none, none, none, some 0, none] 1 rfl (by decide) (by decide) rfl rfl (fun H locs hP hD hS => ?_)
  have hP : va_P D vwCl (cW cI cZ th0 th1 th2 th3 th4 ((W_weights u_th), (W_cars u_th), z1, (W_loads u_th), (W_lowest u_th), (W_friction u_th))) H := hP
  have hD : va_D A (cW cI cZ th0 th1 th2 th3 th4 ((W_weights u_th), (W_cars u_th), z1, (W_loads u_th), (W_lowest u_th), (W_friction u_th))) := hD
  refine lv_aload_n hx hb dX9_seat_9 rfl (lv_at hl 0 rfl) ?_
  refine va_get (D := D) (ci := 6) (v := .ref th2) (C := RX9) (T := TX9) (N := 6) hx hb hts hi_X9 hown hK hP 0 rfl rfl 1 (by decide) (hts (.fieldLink RX9 15 "FairWheel$Wheel" "cars" "[I") (List.mem_of_getElem? (i := 2) rfl)) (fun _ h9 => h9) rfl dX9_seat_10 ?_
  refine lv_iload_n hx hb dX9_seat_13 rfl (lv_at hl 1 rfl) ?_
  refine lv_iload_n hx hb dX9_seat_14 rfl (lv_at hl 2 rfl) ?_
  obtain ⟨z2, hz_z2, hf⟩ := o_bind hf
  refine k_callv (va_runSN (As := [.ref th2, .int p1, .int p2]) (rest := []) ⟨hx, hb, hml, hown, hts⟩ (c_X10_put l D cI cZ th2 H.size 8 (W_cars u_th) p1 p2 z2 hz_z2) ⟨va_cnB 3 hts gX9_seat_X10_put_n45 rfl rfl rfl (hE.1.1 (RX9, 45, yX10_put) (List.mem_of_getElem? (i := 13) rfl)) (hts (.initialized RX10) (List.mem_of_getElem? (i := 4) rfl)) hd_X10_put ⟨Nat.le_of_ble_eq_true rfl, Nat.le_of_ble_eq_true rfl⟩, hts (.static yX10_put) (List.mem_of_getElem? (i := 3) rfl), trivial⟩ (k_preS hK hP hD hS hA hE [2] (by decide) rfl) rfl rfl hl.1 rfl (lv_room (Nat.le_of_ble_eq_true rfl)) dX9_seat_15 ⟨Nat.zero_le _, Nat.zero_le _⟩) hP hD hS hA [2] [none, none, some 0, none, none] 1 rfl (by decide) (by decide) rfl rfl (fun H locs hP hD hS => ?_)
  have hP : va_P D vwCl (cW cI cZ th0 th1 th2 th3 th4 ((W_weights u_th), z2, z1, (W_loads u_th), (W_lowest u_th), (W_friction u_th))) H := hP
  have hD : va_D A (cW cI cZ th0 th1 th2 th3 th4 ((W_weights u_th), z2, z1, (W_loads u_th), (W_lowest u_th), (W_friction u_th))) := hD
  exact k_vret (u := ((W_weights u_th), z2, z1, (W_loads u_th), (W_lowest u_th), (W_friction u_th))) hx hb hr hlocks hK hS eQ hf hP hD dX9_seat_18
theorem hd_X9_unseat : yX9_unseat.cls ≠ "java/lang/invoke/MethodHandle" ∧ yX9_unseat.cls ≠ "java/lang/invoke/VarHandle" ∧ (parseMethodDescriptor yX9_unseat.desc).map (fun d => d.parameters.length) = some 1 := by decide +kernel
set_option maxHeartbeats 4000000 in
set_option maxRecDepth 100000 in
theorem c_X9_unseat (l : Launch) (D : va_G) (cI cZ : ClassId) (th0 : Nat) (th1 : Nat) (th2 : Nat) (th3 : Nat) (th4 : Nat) (sz : Nat) (u_th : sW) (p1 : Int32) (z : sW) (hf : f_X9_unseat u_th p1 = some z) : Met l yX9_unseat wsX9_unseat rmX9_unseat (va_Pc [.ref th0, .int p1] (wPr D cI cZ (cW cI cZ th0 th1 th2 th3 th4 u_th) sz)) (va_Qv (fun (v : sW) => v = z) (fun (v : sW) t => wPo D cI cZ (va_A (cW cI cZ th0 th1 th2 th3 th4 u_th) sz) (cW cI cZ th0 th1 th2 th3 th4 v) t) (va_A (cW cI cZ th0 th1 th2 th3 th4 u_th) sz)) 0 0 (va_A (cW cI cZ th0 th1 th2 th3 th4 u_th) sz) := by
  refine k_enter (D := D) (cI := cI) (cZ := cZ) (wl := cW cI cZ th0 th1 th2 th3 th4 u_th) (sz := sz) (av := [.ref th0, .int p1]) (cc := cX9_unseat) (maxL := 2) (ret := none) (Qc := fun A => va_Qv (fun (v : sW) => v = z) (fun (v : sW) t => wPo D cI cZ (A) (cW cI cZ th0 th1 th2 th3 th4 v) t) (A)) (by decide) rfl (Nat.le_of_ble_eq_true rfl) ?_
  intro p e s m below meth c ls A Q H locs eQ hx hb hr hml hts hown hlocks hK hP hD hS hA hE hl
  have hown : s.vm.findClass RX9 = some m.cls := hown
  have hl : lv_has ls 2 [(0, .ref th0), (1, .int p1)] := hl
  have hi_X9 : ∀ w ∈ wsX90, w ∈ wsX9_unseat := fun w h => List.mem_cons_of_mem _ (List.mem_append_right _ h)
  rw [f_X9_unseat] at hf
  refine lv_aload_n hx hb dX9_unseat_0 rfl (lv_at hl 0 rfl) ?_
  refine va_get (D := D) (ci := 6) (v := .ref th2) (C := RX9) (T := TX9) (N := 6) hx hb hts hi_X9 hown hK hP 0 rfl rfl 1 (by decide) (hts (.fieldLink RX9 15 "FairWheel$Wheel" "cars" "[I") (List.mem_of_getElem? (i := 1) rfl)) (fun _ h9 => h9) rfl dX9_unseat_1 ?_
  refine lv_aload_n hx hb dX9_unseat_4 rfl (lv_at hl 0 rfl) ?_
  refine va_get (D := D) (ci := 6) (v := .ref th3) (C := RX9) (T := TX9) (N := 6) hx hb hts hi_X9 hown hK hP 0 rfl rfl 2 (by decide) (hts (.fieldLink RX9 18 "FairWheel$Wheel" "riders" "[I") (List.mem_of_getElem? (i := 2) rfl)) (fun _ h9 => h9) rfl dX9_unseat_5 ?_
  refine lv_iload_n hx hb dX9_unseat_8 rfl (lv_at hl 1 rfl) ?_
  obtain ⟨z1, hz_z1, hf⟩ := o_bind hf
  refine k_calli (va_runSN (As := [.ref th3, .int p1]) (rest := [.ref th2]) ⟨hx, hb, hml, hown, hts⟩ (c_X10_at l D cI cZ th3 H.size 8 (W_riders u_th) p1 z1 hz_z1) ⟨va_cnB 2 hts gX9_unseat_X10_at_n41 rfl rfl rfl (hE.1.1 (RX9, 41, yX10_at) (List.mem_of_getElem? (i := 12) rfl)) (hts (.initialized RX10) (List.mem_of_getElem? (i := 4) rfl)) hd_X10_at ⟨Nat.le_of_ble_eq_true rfl, Nat.le_of_ble_eq_true rfl⟩, hts (.static yX10_at) (List.mem_of_getElem? (i := 3) rfl), trivial⟩ (k_preS hK hP hD hS hA hE [3] (by decide) rfl) rfl rfl hl.1 rfl (lv_room (Nat.le_of_ble_eq_true rfl)) dX9_unseat_9 ⟨Nat.zero_le _, Nat.zero_le _⟩) hP hD hS hA [3] [none, none, none, some 0, none] 1 rfl (by decide) (by decide) rfl rfl (fun H locs hP hD hS => ?_)
  have hP : va_P D vwCl (cW cI cZ th0 th1 th2 th3 th4 u_th) H := hP
  have hD : va_D A (cW cI cZ th0 th1 th2 th3 th4 u_th) := hD
  refine lv_bipush (v := -6) hx hb dX9_unseat_12 (by decide) ?_
  obtain ⟨z2, hz_z2, hf⟩ := o_bind hf
  refine k_callv (va_runSN (As := [.ref th2, .int z1.1, .int (-6 : Int32)]) (rest := []) ⟨hx, hb, hml, hown, hts⟩ (c_X10_put l D cI cZ th2 H.size 8 (W_cars u_th) z1.1 (-6 : Int32) z2 hz_z2) ⟨va_cnB 3 hts gX9_unseat_X10_put_n45 rfl rfl rfl (hE.1.1 (RX9, 45, yX10_put) (List.mem_of_getElem? (i := 13) rfl)) (hts (.initialized RX10) (List.mem_of_getElem? (i := 4) rfl)) hd_X10_put ⟨Nat.le_of_ble_eq_true rfl, Nat.le_of_ble_eq_true rfl⟩, hts (.static yX10_put) (List.mem_of_getElem? (i := 6) rfl), trivial⟩ (k_preS hK hP hD hS hA hE [2] (by decide) rfl) rfl rfl hl.1 rfl (lv_room (Nat.le_of_ble_eq_true rfl)) dX9_unseat_14 ⟨Nat.zero_le _, Nat.zero_le _⟩) hP hD hS hA [2] [none, none, some 0, none, none] 1 rfl (by decide) (by decide) rfl rfl (fun H locs hP hD hS => ?_)
  have hP : va_P D vwCl (cW cI cZ th0 th1 th2 th3 th4 ((W_weights u_th), z2, (W_riders u_th), (W_loads u_th), (W_lowest u_th), (W_friction u_th))) H := hP
  have hD : va_D A (cW cI cZ th0 th1 th2 th3 th4 ((W_weights u_th), z2, (W_riders u_th), (W_loads u_th), (W_lowest u_th), (W_friction u_th))) := hD
  refine lv_aload_n hx hb dX9_unseat_17 rfl (lv_at hl 0 rfl) ?_
  refine va_get (D := D) (ci := 6) (v := .ref th3) (C := RX9) (T := TX9) (N := 6) hx hb hts hi_X9 hown hK hP 0 rfl rfl 2 (by decide) (hts (.fieldLink RX9 18 "FairWheel$Wheel" "riders" "[I") (List.mem_of_getElem? (i := 2) rfl)) (fun _ h9 => h9) rfl dX9_unseat_18 ?_
  refine lv_iload_n hx hb dX9_unseat_21 rfl (lv_at hl 1 rfl) ?_
  refine lv_bipush (v := -6) hx hb dX9_unseat_22 (by decide) ?_
  obtain ⟨z3, hz_z3, hf⟩ := o_bind hf
  refine k_callv (va_runSN (As := [.ref th3, .int p1, .int (-6 : Int32)]) (rest := []) ⟨hx, hb, hml, hown, hts⟩ (c_X10_put l D cI cZ th3 H.size 8 (W_riders u_th) p1 (-6 : Int32) z3 hz_z3) ⟨va_cnB 3 hts gX9_unseat_X10_put_n45 rfl rfl rfl (hE.1.1 (RX9, 45, yX10_put) (List.mem_of_getElem? (i := 13) rfl)) (hts (.initialized RX10) (List.mem_of_getElem? (i := 4) rfl)) hd_X10_put ⟨Nat.le_of_ble_eq_true rfl, Nat.le_of_ble_eq_true rfl⟩, hts (.static yX10_put) (List.mem_of_getElem? (i := 6) rfl), trivial⟩ (k_preS hK hP hD hS hA hE [3] (by decide) rfl) rfl rfl hl.1 rfl (lv_room (Nat.le_of_ble_eq_true rfl)) dX9_unseat_24 ⟨Nat.zero_le _, Nat.zero_le _⟩) hP hD hS hA [3] [none, none, none, some 0, none] 1 rfl (by decide) (by decide) rfl rfl (fun H locs hP hD hS => ?_)
  have hP : va_P D vwCl (cW cI cZ th0 th1 th2 th3 th4 ((W_weights u_th), z2, z3, (W_loads u_th), (W_lowest u_th), (W_friction u_th))) H := hP
  have hD : va_D A (cW cI cZ th0 th1 th2 th3 th4 ((W_weights u_th), z2, z3, (W_loads u_th), (W_lowest u_th), (W_friction u_th))) := hD
  exact k_vret (u := ((W_weights u_th), z2, z3, (W_loads u_th), (W_lowest u_th), (W_friction u_th))) hx hb hr hlocks hK hS eQ hf hP hD dX9_unseat_27
theorem hd_X9_turn : yX9_turn.cls ≠ "java/lang/invoke/MethodHandle" ∧ yX9_turn.cls ≠ "java/lang/invoke/VarHandle" ∧ (parseMethodDescriptor yX9_turn.desc).map (fun d => d.parameters.length) = some 1 := by decide +kernel
set_option maxHeartbeats 4000000 in
set_option maxRecDepth 100000 in
theorem c_X9_turn (l : Launch) (D : va_G) (cI cZ : ClassId) (th0 : Nat) (th1 : Nat) (th2 : Nat) (th3 : Nat) (th4 : Nat) (sz : Nat) (u_th : sW) (p1 : Int32) (z : sW) (hf : f_X9_turn u_th p1 = some z) : Met l yX9_turn wsX9_turn rmX9_turn (va_Pc [.ref th0, .int p1] (wPr D cI cZ (cW cI cZ th0 th1 th2 th3 th4 u_th) sz)) (va_Qv (fun (v : sW) => v = z) (fun (v : sW) t => wPo D cI cZ (va_A (cW cI cZ th0 th1 th2 th3 th4 u_th) sz) (cW cI cZ th0 th1 th2 th3 th4 v) t) (va_A (cW cI cZ th0 th1 th2 th3 th4 u_th) sz)) 0 0 (va_A (cW cI cZ th0 th1 th2 th3 th4 u_th) sz) := by
  refine k_enter (D := D) (cI := cI) (cZ := cZ) (wl := cW cI cZ th0 th1 th2 th3 th4 u_th) (sz := sz) (av := [.ref th0, .int p1]) (cc := cX9_turn) (maxL := 2) (ret := none) (Qc := fun A => va_Qv (fun (v : sW) => v = z) (fun (v : sW) t => wPo D cI cZ (A) (cW cI cZ th0 th1 th2 th3 th4 v) t) (A)) (by decide) rfl (Nat.le_of_ble_eq_true rfl) ?_
  intro p e s m below meth c ls A Q H locs eQ hx hb hr hml hts hown hlocks hK hP hD hS hA hE hl
  have hown : s.vm.findClass RX9 = some m.cls := hown
  have hl : lv_has ls 2 [(0, .ref th0), (1, .int p1)] := hl
  have hi_X9 : ∀ w ∈ wsX90, w ∈ wsX9_turn := fun w h => List.mem_cons_of_mem _ (List.mem_append_right _ h)
  rw [f_X9_turn] at hf
  refine lv_aload_n hx hb dX9_turn_0 rfl (lv_at hl 0 rfl) ?_
  refine lv_aload_n hx hb dX9_turn_1 rfl (lv_at hl 0 rfl) ?_
  refine va_get (D := D) (ci := 6) (v := .int (W_lowest u_th)) (C := RX9) (T := TX9) (N := 6) hx hb hts hi_X9 hown hK hP 0 rfl rfl 4 (by decide) (hts (.fieldLink RX9 24 "FairWheel$Wheel" "lowest" "I") (List.mem_of_getElem? (i := 1) rfl)) (fun _ h9 => h9) rfl dX9_turn_2 ?_
  refine lv_iload_n hx hb dX9_turn_5 rfl (lv_at hl 1 rfl) ?_
  refine lv_iadd hx hb dX9_turn_6 ?_
  refine lv_bipush (v := 8) hx hb dX9_turn_7 (by decide) ?_
  obtain ⟨z1, hz_z1, hf⟩ := o_bind hf
  refine k_calli (va_runS (As := [.int ((W_lowest u_th) + p1), .int (8 : Int32)]) (rest := [.ref th0]) ⟨hx, hb, hml, hown, hts⟩ (c_J9_floorMod_7cf53 l D cI cZ  H.size ((W_lowest u_th) + p1) (8 : Int32) z1 hz_z1) (va_cwS 2 hts gX9_turn_J9_floorMod_7cf53 rfl rfl rfl hd_J9_floorMod_7cf53 ⟨Nat.le_of_ble_eq_true rfl, Nat.le_of_ble_eq_true rfl⟩) (k_preS hK hP hD hS hA hE [] (by decide) rfl) rfl rfl hl.1 rfl (lv_room (Nat.le_of_ble_eq_true rfl)) dX9_turn_9 ⟨Nat.zero_le _, Nat.zero_le _⟩) hP hD hS hA [] [none, none, none, none, none] 0 rfl (by decide) (by decide) rfl rfl (fun H locs hP hD hS => ?_)
  have hP : va_P D vwCl (cW cI cZ th0 th1 th2 th3 th4 u_th) H := hP
  have hD : va_D A (cW cI cZ th0 th1 th2 th3 th4 u_th) := hD
  refine va_put (D := D) (ci := 6) (v := .int z1.1) (ty := .int) (C := RX9) (T := TX9) (N := 6) hx hb hts hi_X9 tyX9 tyX9_ok nmX9 hown hK hP hD hS 0 rfl rfl 4 (by decide) (hts (.fieldLink RX9 24 "FairWheel$Wheel" "lowest" "I") (List.mem_of_getElem? (i := 1) rfl)) (fun _ h9 => h9) rfl (by decide +kernel) rfl rfl (Nat.le_of_ble_eq_true rfl) dX9_turn_12 (fun H locs hP hD hS => ?_)
  have hP : va_P D vwCl (cW cI cZ th0 th1 th2 th3 th4 ((W_weights u_th), (W_cars u_th), (W_riders u_th), (W_loads u_th), z1.1, (W_friction u_th))) H := hP
  have hD : va_D A (cW cI cZ th0 th1 th2 th3 th4 ((W_weights u_th), (W_cars u_th), (W_riders u_th), (W_loads u_th), z1.1, (W_friction u_th))) := hD
  exact k_vret (u := ((W_weights u_th), (W_cars u_th), (W_riders u_th), (W_loads u_th), z1.1, (W_friction u_th))) hx hb hr hlocks hK hS eQ hf hP hD dX9_turn_15
theorem hd_X9_takeBack : yX9_takeBack.cls ≠ "java/lang/invoke/MethodHandle" ∧ yX9_takeBack.cls ≠ "java/lang/invoke/VarHandle" ∧ (parseMethodDescriptor yX9_takeBack.desc).map (fun d => d.parameters.length) = some 2 := by decide +kernel
set_option maxHeartbeats 4000000 in
set_option maxRecDepth 100000 in
theorem c_X9_takeBack (l : Launch) (D : va_G) (cI cZ : ClassId) (th0 : Nat) (th1 : Nat) (th2 : Nat) (th3 : Nat) (th4 : Nat) (sz : Nat) (u_th : sW) (p1 : Int32) (p2 : Int32) (z : sW) (hf : f_X9_takeBack u_th p1 p2 = some z) : Met l yX9_takeBack wsX9_takeBack rmX9_takeBack (va_Pc [.ref th0, .int p1, .int p2] (wPr D cI cZ (cW cI cZ th0 th1 th2 th3 th4 u_th) sz)) (va_Qv (fun (v : sW) => v = z) (fun (v : sW) t => wPo D cI cZ (va_A (cW cI cZ th0 th1 th2 th3 th4 u_th) sz) (cW cI cZ th0 th1 th2 th3 th4 v) t) (va_A (cW cI cZ th0 th1 th2 th3 th4 u_th) sz)) 0 0 (va_A (cW cI cZ th0 th1 th2 th3 th4 u_th) sz) := by
  refine k_enter (D := D) (cI := cI) (cZ := cZ) (wl := cW cI cZ th0 th1 th2 th3 th4 u_th) (sz := sz) (av := [.ref th0, .int p1, .int p2]) (cc := cX9_takeBack) (maxL := 3) (ret := none) (Qc := fun A => va_Qv (fun (v : sW) => v = z) (fun (v : sW) t => wPo D cI cZ (A) (cW cI cZ th0 th1 th2 th3 th4 v) t) (A)) (by decide) rfl (Nat.le_of_ble_eq_true rfl) ?_
  intro p e s m below meth c ls A Q H locs eQ hx hb hr hml hts hown hlocks hK hP hD hS hA hE hl
  have hown : s.vm.findClass RX9 = some m.cls := hown
  have hl : lv_has ls 3 [(0, .ref th0), (1, .int p1), (2, .int p2)] := hl
  have hi_X9 : ∀ w ∈ wsX90, w ∈ wsX9_takeBack := fun w h => List.mem_cons_of_mem _ (List.mem_append_right _ h)
  rw [f_X9_takeBack] at hf
  refine lv_aload_n hx hb dX9_takeBack_0 rfl (lv_at hl 0 rfl) ?_
  refine lv_iload_n hx hb dX9_takeBack_1 rfl (lv_at hl 1 rfl) ?_
  refine lv_bipush (v := 8) hx hb dX9_takeBack_2 (by decide) ?_
  obtain ⟨z1, hz_z1, hf⟩ := o_bind hf
  refine k_calli (va_runS (As := [.int p1, .int (8 : Int32)]) (rest := [.ref th0]) ⟨hx, hb, hml, hown, hts⟩ (c_J9_floorMod_7cf53 l D cI cZ  H.size p1 (8 : Int32) z1 hz_z1) (va_cwS 2 hts gX9_takeBack_J9_floorMod_7cf53 rfl rfl rfl hd_J9_floorMod_7cf53 ⟨Nat.le_of_ble_eq_true rfl, Nat.le_of_ble_eq_true rfl⟩) (k_preS hK hP hD hS hA hE [] (by decide) rfl) rfl rfl hl.1 rfl (lv_room (Nat.le_of_ble_eq_true rfl)) dX9_takeBack_4 ⟨Nat.zero_le _, Nat.zero_le _⟩) hP hD hS hA [] [none, none, none, none, none] 0 rfl (by decide) (by decide) rfl rfl (fun H locs hP hD hS => ?_)
  have hP : va_P D vwCl (cW cI cZ th0 th1 th2 th3 th4 u_th) H := hP
  have hD : va_D A (cW cI cZ th0 th1 th2 th3 th4 u_th) := hD
  refine va_put (D := D) (ci := 6) (v := .int z1.1) (ty := .int) (C := RX9) (T := TX9) (N := 6) hx hb hts hi_X9 tyX9 tyX9_ok nmX9 hown hK hP hD hS 0 rfl rfl 4 (by decide) (hts (.fieldLink RX9 24 "FairWheel$Wheel" "lowest" "I") (List.mem_of_getElem? (i := 1) rfl)) (fun _ h9 => h9) rfl (by decide +kernel) rfl rfl (Nat.le_of_ble_eq_true rfl) dX9_takeBack_7 (fun H locs hP hD hS => ?_)
  have hP : va_P D vwCl (cW cI cZ th0 th1 th2 th3 th4 ((W_weights u_th), (W_cars u_th), (W_riders u_th), (W_loads u_th), z1.1, (W_friction u_th))) H := hP
  have hD : va_D A (cW cI cZ th0 th1 th2 th3 th4 ((W_weights u_th), (W_cars u_th), (W_riders u_th), (W_loads u_th), z1.1, (W_friction u_th))) := hD
  refine lv_aload_n hx hb dX9_takeBack_10 rfl (lv_at hl 0 rfl) ?_
  refine lv_iload_n hx hb dX9_takeBack_11 rfl (lv_at hl 1 rfl) ?_
  obtain ⟨z2, hz_z2, hf⟩ := o_bind hf
  refine k_callv (va_runV (As := [.int p1]) (rest := []) ⟨hx, hb, hml, hown, hts⟩ (c_X9_unseat l D cI cZ th0 th1 th2 th3 th4 H.size ((W_weights u_th), (W_cars u_th), (W_riders u_th), (W_loads u_th), z1.1, (W_friction u_th)) p1 z2 hz_z2) (cwV 1 hts gX9_takeBack_X9_unseat rfl rfl rfl ⟨rfl, hd_X9_unseat⟩ ⟨Nat.le_of_ble_eq_true rfl, Nat.le_of_ble_eq_true rfl⟩) (k_preV hK hP hD hS hA hE [0, 1, 2, 3, 4] (by decide) rfl (ci := 6) rfl rfl) rfl rfl hl.1 rfl (lv_room (Nat.le_of_ble_eq_true rfl)) dX9_takeBack_12 ⟨Nat.zero_le _, Nat.zero_le _⟩) hP hD hS hA [0, 1, 2, 3, 4] [some 0, some 1, some 2, some 3, some 4] 5 rfl (by decide) (by decide) rfl rfl (fun H locs hP hD hS => ?_)
  have hP : va_P D vwCl (cW cI cZ th0 th1 th2 th3 th4 z2) H := hP
  have hD : va_D A (cW cI cZ th0 th1 th2 th3 th4 z2) := hD
  refine lv_iload_n hx hb dX9_takeBack_15 rfl (lv_at hl 2 rfl) ?_
  refine lv_bipush (v := -6) hx hb dX9_takeBack_16 (by decide) ?_
  refine lv_icmp_eq (tgt := 27) hx hb dX9_takeBack_18 (by decide) (fun c3 => ?_) (fun c3 => ?_)
  · have hf := (if_pos c3).symm.trans hf
    exact k_vret (u := z2) hx hb hr hlocks hK hS eQ hf hP hD dX9_takeBack_27
  · have hf := (if_neg c3).symm.trans hf
    refine lv_aload_n hx hb dX9_takeBack_21 rfl (lv_at hl 0 rfl) ?_
    refine lv_iload_n hx hb dX9_takeBack_22 rfl (lv_at hl 2 rfl) ?_
    refine lv_iload_n hx hb dX9_takeBack_23 rfl (lv_at hl 1 rfl) ?_
    obtain ⟨z4, hz_z4, hf⟩ := o_bind hf
    refine k_callv (va_runV (As := [.int p2, .int p1]) (rest := []) ⟨hx, hb, hml, hown, hts⟩ (c_X9_seat l D cI cZ th0 th1 th2 th3 th4 H.size z2 p2 p1 z4 hz_z4) (cwV 2 hts gX9_takeBack_X9_seat rfl rfl rfl ⟨rfl, hd_X9_seat⟩ ⟨Nat.le_of_ble_eq_true rfl, Nat.le_of_ble_eq_true rfl⟩) (k_preV hK hP hD hS hA hE [0, 1, 2, 3, 4] (by decide) rfl (ci := 6) rfl rfl) rfl rfl hl.1 rfl (lv_room (Nat.le_of_ble_eq_true rfl)) dX9_takeBack_24 ⟨Nat.zero_le _, Nat.zero_le _⟩) hP hD hS hA [0, 1, 2, 3, 4] [some 0, some 1, some 2, some 3, some 4] 5 rfl (by decide) (by decide) rfl rfl (fun H locs hP hD hS => ?_)
    have hP : va_P D vwCl (cW cI cZ th0 th1 th2 th3 th4 z4) H := hP
    have hD : va_D A (cW cI cZ th0 th1 th2 th3 th4 z4) := hD
    exact k_vret (u := z4) hx hb hr hlocks hK hS eQ hf hP hD dX9_takeBack_27
theorem hd_X9_pullAt : yX9_pullAt.cls ≠ "java/lang/invoke/MethodHandle" ∧ yX9_pullAt.cls ≠ "java/lang/invoke/VarHandle" ∧ (parseMethodDescriptor yX9_pullAt.desc).map (fun d => d.parameters.length) = some 1 := by decide +kernel
set_option maxHeartbeats 4000000 in
set_option maxRecDepth 100000 in
theorem c_X9_pullAt (l : Launch) (D : va_G) (cI cZ : ClassId) (th0 : Nat) (th1 : Nat) (th2 : Nat) (th3 : Nat) (th4 : Nat) (sz : Nat) (u_th : sW) (p1 : Int32) (z : Int32 × Unit) (hf : f_X9_pullAt u_th p1 = some z) : Met l yX9_pullAt wsX9_pullAt rmX9_pullAt (va_Pc [.ref th0, .int p1] (wPr D cI cZ (cW cI cZ th0 th1 th2 th3 th4 u_th) sz)) (va_Qi (fun (r : Int32) (v : Unit) => (r, v) = z) (fun (v : Unit) t => wPo D cI cZ (va_A (cW cI cZ th0 th1 th2 th3 th4 u_th) sz) (cW cI cZ th0 th1 th2 th3 th4 u_th) t) (va_A (cW cI cZ th0 th1 th2 th3 th4 u_th) sz)) 0 0 (va_A (cW cI cZ th0 th1 th2 th3 th4 u_th) sz) := by
  refine k_enter (D := D) (cI := cI) (cZ := cZ) (wl := cW cI cZ th0 th1 th2 th3 th4 u_th) (sz := sz) (av := [.ref th0, .int p1]) (cc := cX9_pullAt) (maxL := 6) (ret := (some .int)) (Qc := fun A => va_Qi (fun (r : Int32) (v : Unit) => (r, v) = z) (fun (v : Unit) t => wPo D cI cZ (A) (cW cI cZ th0 th1 th2 th3 th4 u_th) t) (A)) (by decide) rfl (Nat.le_of_ble_eq_true rfl) ?_
  intro p e s m below meth c ls A Q H locs eQ hx hb hr hml hts hown hlocks hK hP hD hS hA hE hl
  have hown : s.vm.findClass RX9 = some m.cls := hown
  have hl : lv_has ls 6 [(0, .ref th0), (1, .int p1)] := hl
  have hi_X9 : ∀ w ∈ wsX90, w ∈ wsX9_pullAt := fun w h => List.mem_cons_of_mem _ (List.mem_append_right _ h)
  have hJ48 : ∀ (K_4 : Int32 → Int32 → Int32 → Option (Int32 × Unit)), (∀ (v1 : Int32) (v2 : Int32) (v3 : Int32) (H : Heap) (locs : List Loc) (ls : Array Slot), lv_has ls 6 [(0, .ref th0), (1, .int v1), (2, .int v2), (3, .int v3)] → va_P D vwCl (cW cI cZ th0 th1 th2 th3 th4 u_th) H → va_D A (cW cI cZ th0 th1 th2 th3 th4 u_th) → va_S A s.heap H locs → K_4 v1 v2 v3 = some z → W p l e (headSpec wsX9_pullAt rmX9_pullAt).room s m ([.ref th0, .int p1] : List Value).toArray below meth c H locs 0 0 Q (F0 m 4 ls [])) → ∀ (v1 : Int32) (v2 : Int32) (v3 : Int32) (s0 : Int32) (s1 : Int32) (H : Heap) (locs : List Loc) (ls : Array Slot), lv_has ls 6 [(0, .ref th0), (1, .int v1), (2, .int v2), (3, .int v3)] → va_P D vwCl (cW cI cZ th0 th1 th2 th3 th4 u_th) H → va_D A (cW cI cZ th0 th1 th2 th3 th4 u_th) → va_S A s.heap H locs → f_X9_pullAt_J48 u_th K_4 v1 v2 v3 s0 s1 = some z → W p l e (headSpec wsX9_pullAt rmX9_pullAt).room s m ([.ref th0, .int p1] : List Value).toArray below meth c H locs 0 0 Q (F0 m 48 ls [.int s1, .int s0]) := by
    intro K_4 hK_4 v1 v2 v3 s0 s1 H locs ls hl hP hD hS hf
    rw [f_X9_pullAt_J48] at hf
    refine lv_iadd hx hb dX9_pullAt_48 ?_
    refine lv_istore (lv' := [(5, .int (s0 + s1)), (0, .ref th0), (1, .int v1), (2, .int v2), (3, .int v3)]) hx hb dX9_pullAt_49 hl (by decide) rfl (fun ls hl => ?_)
    refine lv_iload_n hx hb dX9_pullAt_51 rfl (lv_at hl 3 rfl) ?_
    refine lv_iload hx hb dX9_pullAt_52 (lv_at hl 0 rfl) ?_
    obtain ⟨tA, hZ, hT⟩ := hE.2
    refine va_gets hx hb hZ hS hown (hts (.fieldLink RX9 67 "FairWheel$Wheel" "ARMS" "[I") (List.mem_of_getElem? (i := 4) rfl)) (fun _ h9 => h9) dX9_pullAt_54 ?_
    refine lv_iload_n hx hb dX9_pullAt_57 rfl (lv_at hl 4 rfl) ?_
    refine lv_iload_n hx hb dX9_pullAt_58 rfl (lv_at hl 2 rfl) ?_
    refine lv_isub hx hb dX9_pullAt_59 ?_
    refine lv_bipush (v := 8) hx hb dX9_pullAt_60 (by decide) ?_
    obtain ⟨z6, hz_z6, hf⟩ := o_bind hf
    refine k_calli (va_runS (As := [.int (v3 - v1), .int (8 : Int32)]) (rest := [.ref tA, .int (s0 + s1), .int v2]) ⟨hx, hb, hml, hown, hts⟩ (c_J9_floorMod_7cf53 l D cI cZ  H.size (v3 - v1) (8 : Int32) z6 hz_z6) (va_cwS 2 hts gX9_pullAt_J9_floorMod_7cf53 rfl rfl rfl hd_J9_floorMod_7cf53 ⟨Nat.le_of_ble_eq_true rfl, Nat.le_of_ble_eq_true rfl⟩) (k_preS hK hP hD hS hA hE [] (by decide) rfl) rfl rfl hl.1 rfl (lv_room (Nat.le_of_ble_eq_true rfl)) dX9_pullAt_62 ⟨Nat.zero_le _, Nat.zero_le _⟩) hP hD hS hA [] [none, none, none, none, none] 0 rfl (by decide) (by decide) rfl rfl (fun H locs hP hD hS => ?_)
    have hP : va_P D vwCl (cW cI cZ th0 th1 th2 th3 th4 u_th) H := hP
    have hD : va_D A (cW cI cZ th0 th1 th2 th3 th4 u_th) := hD
    obtain ⟨z7, hz_z7, hf⟩ := o_bind hf
    refine k_calli (va_runSN (As := [.ref tA, .int z6.1]) (rest := [.int (s0 + s1), .int v2]) ⟨hx, hb, hml, hown, hts⟩ (c_X10_atT l D cI cZ tA H.size z6.1 z7 hz_z7) ⟨va_cnB 2 hts gX9_pullAt_X10_at_n41 rfl rfl rfl (hE.1.1 (RX9, 41, yX10_at) (List.mem_of_getElem? (i := 12) rfl)) (hts (.initialized RX10) (List.mem_of_getElem? (i := 6) rfl)) hd_X10_at ⟨Nat.le_of_ble_eq_true rfl, Nat.le_of_ble_eq_true rfl⟩, hts (.static yX10_at) (List.mem_of_getElem? (i := 5) rfl), trivial⟩ (k_preT hK hP hD hS hA hE hT) rfl rfl hl.1 rfl (lv_room (Nat.le_of_ble_eq_true rfl)) dX9_pullAt_65 ⟨Nat.zero_le _, Nat.zero_le _⟩) hP hD hS hA [] [none, none, none, none, none] 0 rfl (by decide) (by decide) rfl rfl (fun H locs hP hD hS => ?_)
    have hP : va_P D vwCl (cW cI cZ th0 th1 th2 th3 th4 u_th) H := hP
    have hD : va_D A (cW cI cZ th0 th1 th2 th3 th4 u_th) := hD
    refine lv_imul hx hb dX9_pullAt_68 ?_
    refine lv_iadd hx hb dX9_pullAt_69 ?_
    refine lv_istore_n (lv' := [(2, .int (v2 + ((s0 + s1) * z7.1))), (5, .int (s0 + s1)), (0, .ref th0), (1, .int v1), (3, .int v3)]) hx hb dX9_pullAt_70 rfl hl (by decide) rfl (fun ls hl => ?_)
    refine lv_iinc (v := (v3 + (1 : Int32))) (lv' := [(3, .int (v3 + (1 : Int32))), (2, .int (v2 + ((s0 + s1) * z7.1))), (5, .int (s0 + s1)), (0, .ref th0), (1, .int v1)]) hx hb dX9_pullAt_71 hl (k := 4) rfl rfl (by decide) rfl (fun ls hl => ?_)
    refine lv_goto (tgt := 4) hx hb dX9_pullAt_74 (by decide) ?_
    exact hK_4 v1 (v2 + ((s0 + s1) * z7.1)) (v3 + (1 : Int32)) _ _ ls (lv_sub hl [3, 4, 1, 0] rfl) hP hD hS hf
  have hL4 : ∀ (n : Nat), ∀ (v1 : Int32) (v2 : Int32) (v3 : Int32) (H : Heap) (locs : List Loc) (ls : Array Slot), lv_has ls 6 [(0, .ref th0), (1, .int v1), (2, .int v2), (3, .int v3)] → va_P D vwCl (cW cI cZ th0 th1 th2 th3 th4 u_th) H → va_D A (cW cI cZ th0 th1 th2 th3 th4 u_th) → va_S A s.heap H locs → f_X9_pullAt_L4 u_th n v1 v2 v3 = some z → W p l e (headSpec wsX9_pullAt rmX9_pullAt).room s m ([.ref th0, .int p1] : List Value).toArray below meth c H locs 0 0 Q (F0 m 4 ls []) := by
    intro n
    induction n with
    | zero =>
      intro v1 v2 v3 H locs ls hl hP hD hS hf
      exact absurd (show (none : Option (Int32 × Unit)) = some z from hf) (fun h => by cases h)
    | succ n ih =>
      intro v1 v2 v3 H locs ls hl hP hD hS hf
      rw [f_X9_pullAt_L4] at hf
      refine lv_iload_n hx hb dX9_pullAt_4 rfl (lv_at hl 3 rfl) ?_
      refine lv_bipush (v := 8) hx hb dX9_pullAt_5 (by decide) ?_
      refine lv_icmp_ge (tgt := 77) hx hb dX9_pullAt_7 (by decide) (fun c1 => ?_) (fun c1 => ?_)
      · have hf := (if_pos c1).symm.trans hf
        refine lv_iload_n hx hb dX9_pullAt_77 rfl (lv_at hl 2 rfl) ?_
        exact k_iret (v := v2) (u := ()) hx hb hr hlocks hK hS eQ hf hP hD dX9_pullAt_78
      · have hf := (if_neg c1).symm.trans hf
        refine lv_aload_n hx hb dX9_pullAt_10 rfl (lv_at hl 0 rfl) ?_
        refine va_get (D := D) (ci := 6) (v := .ref th3) (C := RX9) (T := TX9) (N := 6) hx hb hts hi_X9 hown hK hP 0 rfl rfl 2 (by decide) (hts (.fieldLink RX9 18 "FairWheel$Wheel" "riders" "[I") (List.mem_of_getElem? (i := 1) rfl)) (fun _ h9 => h9) rfl dX9_pullAt_11 ?_
        refine lv_iload_n hx hb dX9_pullAt_14 rfl (lv_at hl 3 rfl) ?_
        obtain ⟨z2, hz_z2, hf⟩ := o_bind hf
        refine k_calli (va_runSN (As := [.ref th3, .int v3]) (rest := []) ⟨hx, hb, hml, hown, hts⟩ (c_X10_at l D cI cZ th3 H.size 8 (W_riders u_th) v3 z2 hz_z2) ⟨va_cnB 2 hts gX9_pullAt_X10_at_n41 rfl rfl rfl (hE.1.1 (RX9, 41, yX10_at) (List.mem_of_getElem? (i := 12) rfl)) (hts (.initialized RX10) (List.mem_of_getElem? (i := 6) rfl)) hd_X10_at ⟨Nat.le_of_ble_eq_true rfl, Nat.le_of_ble_eq_true rfl⟩, hts (.static yX10_at) (List.mem_of_getElem? (i := 5) rfl), trivial⟩ (k_preS hK hP hD hS hA hE [3] (by decide) rfl) rfl rfl hl.1 rfl (lv_room (Nat.le_of_ble_eq_true rfl)) dX9_pullAt_15 ⟨Nat.zero_le _, Nat.zero_le _⟩) hP hD hS hA [3] [none, none, none, some 0, none] 1 rfl (by decide) (by decide) rfl rfl (fun H locs hP hD hS => ?_)
        have hP : va_P D vwCl (cW cI cZ th0 th1 th2 th3 th4 u_th) H := hP
        have hD : va_D A (cW cI cZ th0 th1 th2 th3 th4 u_th) := hD
        refine lv_istore (lv' := [(4, .int z2.1), (0, .ref th0), (1, .int v1), (2, .int v2), (3, .int v3)]) hx hb dX9_pullAt_18 hl (by decide) rfl (fun ls hl => ?_)
        refine lv_aload_n hx hb dX9_pullAt_20 rfl (lv_at hl 1 rfl) ?_
        refine va_get (D := D) (ci := 6) (v := .ref th4) (C := RX9) (T := TX9) (N := 6) hx hb hts hi_X9 hown hK hP 0 rfl rfl 3 (by decide) (hts (.fieldLink RX9 21 "FairWheel$Wheel" "loads" "[I") (List.mem_of_getElem? (i := 2) rfl)) (fun _ h9 => h9) rfl dX9_pullAt_21 ?_
        refine lv_iload_n hx hb dX9_pullAt_24 rfl (lv_at hl 4 rfl) ?_
        obtain ⟨z3, hz_z3, hf⟩ := o_bind hf
        refine k_calli (va_runSN (As := [.ref th4, .int v3]) (rest := []) ⟨hx, hb, hml, hown, hts⟩ (c_X10_at l D cI cZ th4 H.size 8 (W_loads u_th) v3 z3 hz_z3) ⟨va_cnB 2 hts gX9_pullAt_X10_at_n41 rfl rfl rfl (hE.1.1 (RX9, 41, yX10_at) (List.mem_of_getElem? (i := 12) rfl)) (hts (.initialized RX10) (List.mem_of_getElem? (i := 6) rfl)) hd_X10_at ⟨Nat.le_of_ble_eq_true rfl, Nat.le_of_ble_eq_true rfl⟩, hts (.static yX10_at) (List.mem_of_getElem? (i := 5) rfl), trivial⟩ (k_preS hK hP hD hS hA hE [4] (by decide) rfl) rfl rfl hl.1 rfl (lv_room (Nat.le_of_ble_eq_true rfl)) dX9_pullAt_25 ⟨Nat.zero_le _, Nat.zero_le _⟩) hP hD hS hA [4] [none, none, none, none, some 0] 1 rfl (by decide) (by decide) rfl rfl (fun H locs hP hD hS => ?_)
        have hP : va_P D vwCl (cW cI cZ th0 th1 th2 th3 th4 u_th) H := hP
        have hD : va_D A (cW cI cZ th0 th1 th2 th3 th4 u_th) := hD
        refine lv_iload hx hb dX9_pullAt_28 (lv_at hl 0 rfl) ?_
        refine lv_bipush (v := -6) hx hb dX9_pullAt_30 (by decide) ?_
        refine lv_icmp_ne (tgt := 39) hx hb dX9_pullAt_32 (by decide) (fun c4 => ?_) (fun c4 => ?_)
        · have hf := (if_neg c4).symm.trans hf
          refine lv_aload_n hx hb dX9_pullAt_39 rfl (lv_at hl 1 rfl) ?_
          refine va_get (D := D) (ci := 6) (v := .ref th1) (C := RX9) (T := TX9) (N := 6) hx hb hts hi_X9 hown hK hP 0 rfl rfl 0 (by decide) (hts (.fieldLink RX9 9 "FairWheel$Wheel" "weights" "[I") (List.mem_of_getElem? (i := 3) rfl)) (fun _ h9 => h9) rfl dX9_pullAt_40 ?_
          refine lv_iload hx hb dX9_pullAt_43 (lv_at hl 0 rfl) ?_
          obtain ⟨z5, hz_z5, hf⟩ := o_bind hf
          refine k_calli (va_runSN (As := [.ref th1, .int z2.1]) (rest := [.int z3.1]) ⟨hx, hb, hml, hown, hts⟩ (c_X10_at l D cI cZ th1 H.size 8 (W_weights u_th) z2.1 z5 hz_z5) ⟨va_cnB 2 hts gX9_pullAt_X10_at_n41 rfl rfl rfl (hE.1.1 (RX9, 41, yX10_at) (List.mem_of_getElem? (i := 12) rfl)) (hts (.initialized RX10) (List.mem_of_getElem? (i := 6) rfl)) hd_X10_at ⟨Nat.le_of_ble_eq_true rfl, Nat.le_of_ble_eq_true rfl⟩, hts (.static yX10_at) (List.mem_of_getElem? (i := 5) rfl), trivial⟩ (k_preS hK hP hD hS hA hE [1] (by decide) rfl) rfl rfl hl.1 rfl (lv_room (Nat.le_of_ble_eq_true rfl)) dX9_pullAt_45 ⟨Nat.zero_le _, Nat.zero_le _⟩) hP hD hS hA [1] [none, some 0, none, none, none] 1 rfl (by decide) (by decide) rfl rfl (fun H locs hP hD hS => ?_)
          have hP : va_P D vwCl (cW cI cZ th0 th1 th2 th3 th4 u_th) H := hP
          have hD : va_D A (cW cI cZ th0 th1 th2 th3 th4 u_th) := hD
          exact hJ48 (f_X9_pullAt_L4 u_th n) ih v1 v2 v3 z3.1 z5.1 _ _ ls (lv_sub hl [1, 2, 3, 4] rfl) hP hD hS hf
        · have hf := (if_pos c4).symm.trans hf
          refine lv_iconst (v := 0) hx hb dX9_pullAt_35 (by decide) ?_
          refine lv_goto (tgt := 48) hx hb dX9_pullAt_36 (by decide) ?_
          exact hJ48 (f_X9_pullAt_L4 u_th n) ih v1 v2 v3 z3.1 (0 : Int32) _ _ ls (lv_sub hl [1, 2, 3, 4] rfl) hP hD hS hf
  rw [f_X9_pullAt] at hf
  refine lv_iconst (v := 0) hx hb dX9_pullAt_0 (by decide) ?_
  refine lv_istore_n (lv' := [(2, .int (0 : Int32)), (0, .ref th0), (1, .int p1)]) hx hb dX9_pullAt_1 rfl hl (by decide) rfl (fun ls hl => ?_)
  refine lv_iconst (v := 0) hx hb dX9_pullAt_2 (by decide) ?_
  refine lv_istore_n (lv' := [(3, .int (0 : Int32)), (2, .int (0 : Int32)), (0, .ref th0), (1, .int p1)]) hx hb dX9_pullAt_3 rfl hl (by decide) rfl (fun ls hl => ?_)
  exact hL4 oF p1 (0 : Int32) (0 : Int32) _ _ ls (lv_sub hl [2, 3, 1, 0] rfl) hP hD hS hf
theorem hd_X9_pullNow : yX9_pullNow.cls ≠ "java/lang/invoke/MethodHandle" ∧ yX9_pullNow.cls ≠ "java/lang/invoke/VarHandle" ∧ (parseMethodDescriptor yX9_pullNow.desc).map (fun d => d.parameters.length) = some 0 := by decide +kernel
set_option maxHeartbeats 4000000 in
set_option maxRecDepth 100000 in
theorem c_X9_pullNow (l : Launch) (D : va_G) (cI cZ : ClassId) (th0 : Nat) (th1 : Nat) (th2 : Nat) (th3 : Nat) (th4 : Nat) (sz : Nat) (u_th : sW) (z : Int32 × Unit) (hf : f_X9_pullNow u_th = some z) : Met l yX9_pullNow wsX9_pullNow rmX9_pullNow (va_Pc [.ref th0] (wPr D cI cZ (cW cI cZ th0 th1 th2 th3 th4 u_th) sz)) (va_Qi (fun (r : Int32) (v : Unit) => (r, v) = z) (fun (v : Unit) t => wPo D cI cZ (va_A (cW cI cZ th0 th1 th2 th3 th4 u_th) sz) (cW cI cZ th0 th1 th2 th3 th4 u_th) t) (va_A (cW cI cZ th0 th1 th2 th3 th4 u_th) sz)) 0 0 (va_A (cW cI cZ th0 th1 th2 th3 th4 u_th) sz) := by
  refine k_enter (D := D) (cI := cI) (cZ := cZ) (wl := cW cI cZ th0 th1 th2 th3 th4 u_th) (sz := sz) (av := [.ref th0]) (cc := cX9_pullNow) (maxL := 1) (ret := (some .int)) (Qc := fun A => va_Qi (fun (r : Int32) (v : Unit) => (r, v) = z) (fun (v : Unit) t => wPo D cI cZ (A) (cW cI cZ th0 th1 th2 th3 th4 u_th) t) (A)) (by decide) rfl (Nat.le_of_ble_eq_true rfl) ?_
  intro p e s m below meth c ls A Q H locs eQ hx hb hr hml hts hown hlocks hK hP hD hS hA hE hl
  have hown : s.vm.findClass RX9 = some m.cls := hown
  have hl : lv_has ls 1 [(0, .ref th0)] := hl
  have hi_X9 : ∀ w ∈ wsX90, w ∈ wsX9_pullNow := fun w h => List.mem_cons_of_mem _ (List.mem_append_right _ h)
  rw [f_X9_pullNow] at hf
  refine lv_aload_n hx hb dX9_pullNow_0 rfl (lv_at hl 0 rfl) ?_
  refine lv_aload_n hx hb dX9_pullNow_1 rfl (lv_at hl 0 rfl) ?_
  refine va_get (D := D) (ci := 6) (v := .int (W_lowest u_th)) (C := RX9) (T := TX9) (N := 6) hx hb hts hi_X9 hown hK hP 0 rfl rfl 4 (by decide) (hts (.fieldLink RX9 24 "FairWheel$Wheel" "lowest" "I") (List.mem_of_getElem? (i := 1) rfl)) (fun _ h9 => h9) rfl dX9_pullNow_2 ?_
  obtain ⟨z1, hz_z1, hf⟩ := o_bind hf
  refine k_calli (va_runV (As := [.int (W_lowest u_th)]) (rest := []) ⟨hx, hb, hml, hown, hts⟩ (c_X9_pullAt l D cI cZ th0 th1 th2 th3 th4 H.size u_th (W_lowest u_th) z1 hz_z1) (cwV 1 hts gX9_pullNow_X9_pullAt rfl rfl rfl ⟨rfl, hd_X9_pullAt⟩ ⟨Nat.le_of_ble_eq_true rfl, Nat.le_of_ble_eq_true rfl⟩) (k_preV hK hP hD hS hA hE [0, 1, 2, 3, 4] (by decide) rfl (ci := 6) rfl rfl) rfl rfl hl.1 rfl (lv_room (Nat.le_of_ble_eq_true rfl)) dX9_pullNow_5 ⟨Nat.zero_le _, Nat.zero_le _⟩) hP hD hS hA [0, 1, 2, 3, 4] [some 0, some 1, some 2, some 3, some 4] 5 rfl (by decide) (by decide) rfl rfl (fun H locs hP hD hS => ?_)
  have hP : va_P D vwCl (cW cI cZ th0 th1 th2 th3 th4 u_th) H := hP
  have hD : va_D A (cW cI cZ th0 th1 th2 th3 th4 u_th) := hD
  exact k_iret (v := z1.1) (u := ()) hx hb hr hlocks hK hS eQ hf hP hD dX9_pullNow_8
theorem hd_X9_greatestPull : yX9_greatestPull.cls ≠ "java/lang/invoke/MethodHandle" ∧ yX9_greatestPull.cls ≠ "java/lang/invoke/VarHandle" ∧ (parseMethodDescriptor yX9_greatestPull.desc).map (fun d => d.parameters.length) = some 0 := by decide +kernel
set_option maxHeartbeats 4000000 in
set_option maxRecDepth 100000 in
theorem c_X9_greatestPull (l : Launch) (D : va_G) (cI cZ : ClassId) (th0 : Nat) (th1 : Nat) (th2 : Nat) (th3 : Nat) (th4 : Nat) (sz : Nat) (u_th : sW) (z : Int32 × Unit) (hf : f_X9_greatestPull u_th = some z) : Met l yX9_greatestPull wsX9_greatestPull rmX9_greatestPull (va_Pc [.ref th0] (wPr D cI cZ (cW cI cZ th0 th1 th2 th3 th4 u_th) sz)) (va_Qi (fun (r : Int32) (v : Unit) => (r, v) = z) (fun (v : Unit) t => wPo D cI cZ (va_A (cW cI cZ th0 th1 th2 th3 th4 u_th) sz) (cW cI cZ th0 th1 th2 th3 th4 u_th) t) (va_A (cW cI cZ th0 th1 th2 th3 th4 u_th) sz)) 0 0 (va_A (cW cI cZ th0 th1 th2 th3 th4 u_th) sz) := by
  refine k_enter (D := D) (cI := cI) (cZ := cZ) (wl := cW cI cZ th0 th1 th2 th3 th4 u_th) (sz := sz) (av := [.ref th0]) (cc := cX9_greatestPull) (maxL := 3) (ret := (some .int)) (Qc := fun A => va_Qi (fun (r : Int32) (v : Unit) => (r, v) = z) (fun (v : Unit) t => wPo D cI cZ (A) (cW cI cZ th0 th1 th2 th3 th4 u_th) t) (A)) (by decide) rfl (Nat.le_of_ble_eq_true rfl) ?_
  intro p e s m below meth c ls A Q H locs eQ hx hb hr hml hts hown hlocks hK hP hD hS hA hE hl
  have hown : s.vm.findClass RX9 = some m.cls := hown
  have hl : lv_has ls 3 [(0, .ref th0)] := hl
  have hL4 : ∀ (n : Nat), ∀ (v1 : Int32) (v2 : Int32) (H : Heap) (locs : List Loc) (ls : Array Slot), lv_has ls 3 [(0, .ref th0), (1, .int v1), (2, .int v2)] → va_P D vwCl (cW cI cZ th0 th1 th2 th3 th4 u_th) H → va_D A (cW cI cZ th0 th1 th2 th3 th4 u_th) → va_S A s.heap H locs → f_X9_greatestPull_L4 u_th n v1 v2 = some z → W p l e (headSpec wsX9_greatestPull rmX9_greatestPull).room s m ([.ref th0] : List Value).toArray below meth c H locs 0 0 Q (F0 m 4 ls []) := by
    intro n
    induction n with
    | zero =>
      intro v1 v2 H locs ls hl hP hD hS hf
      exact absurd (show (none : Option (Int32 × Unit)) = some z from hf) (fun h => by cases h)
    | succ n ih =>
      intro v1 v2 H locs ls hl hP hD hS hf
      rw [f_X9_greatestPull_L4] at hf
      refine lv_iload_n hx hb dX9_greatestPull_4 rfl (lv_at hl 2 rfl) ?_
      refine lv_bipush (v := 8) hx hb dX9_greatestPull_5 (by decide) ?_
      refine lv_icmp_ge (tgt := 29) hx hb dX9_greatestPull_7 (by decide) (fun c1 => ?_) (fun c1 => ?_)
      · have hf := (if_pos c1).symm.trans hf
        refine lv_iload_n hx hb dX9_greatestPull_29 rfl (lv_at hl 1 rfl) ?_
        exact k_iret (v := v1) (u := ()) hx hb hr hlocks hK hS eQ hf hP hD dX9_greatestPull_30
      · have hf := (if_neg c1).symm.trans hf
        refine lv_iload_n hx hb dX9_greatestPull_10 rfl (lv_at hl 1 rfl) ?_
        refine lv_aload_n hx hb dX9_greatestPull_11 rfl (lv_at hl 0 rfl) ?_
        refine lv_iload_n hx hb dX9_greatestPull_12 rfl (lv_at hl 2 rfl) ?_
        obtain ⟨z2, hz_z2, hf⟩ := o_bind hf
        refine k_calli (va_runV (As := [.int v2]) (rest := [.int v1]) ⟨hx, hb, hml, hown, hts⟩ (c_X9_pullAt l D cI cZ th0 th1 th2 th3 th4 H.size u_th v2 z2 hz_z2) (cwV 1 hts gX9_greatestPull_X9_pullAt rfl rfl rfl ⟨rfl, hd_X9_pullAt⟩ ⟨Nat.le_of_ble_eq_true rfl, Nat.le_of_ble_eq_true rfl⟩) (k_preV hK hP hD hS hA hE [0, 1, 2, 3, 4] (by decide) rfl (ci := 6) rfl rfl) rfl rfl hl.1 rfl (lv_room (Nat.le_of_ble_eq_true rfl)) dX9_greatestPull_13 ⟨Nat.zero_le _, Nat.zero_le _⟩) hP hD hS hA [0, 1, 2, 3, 4] [some 0, some 1, some 2, some 3, some 4] 5 rfl (by decide) (by decide) rfl rfl (fun H locs hP hD hS => ?_)
        have hP : va_P D vwCl (cW cI cZ th0 th1 th2 th3 th4 u_th) H := hP
        have hD : va_D A (cW cI cZ th0 th1 th2 th3 th4 u_th) := hD
        refine va_mabs hx hb (hml.trans hl.1.symm) hown (hts (.methodLink RX9 70 Lib.Math.abs.name) (List.mem_of_getElem? (i := 1) rfl)) (hts (.static Lib.Math.abs.name) (List.mem_of_getElem? (i := 2) rfl)) (hts (.initialized "java/lang/Math") (List.mem_of_getElem? (i := 3) rfl)) (hts (.code Lib.Math.abs.name Lib.Math.abs.code 1 (some .int)) (List.mem_of_getElem? (i := 4) rfl)) (Nat.le_of_ble_eq_true rfl) (Nat.le_of_ble_eq_true rfl) (Nat.zero_le _) (Nat.zero_le _) dX9_greatestPull_16 ?_
        refine va_mmax hx hb (hml.trans hl.1.symm) hown (hts (.methodLink RX9 73 Lib.Math.max.name) (List.mem_of_getElem? (i := 5) rfl)) (hts (.static Lib.Math.max.name) (List.mem_of_getElem? (i := 6) rfl)) (hts (.initialized "java/lang/Math") (List.mem_of_getElem? (i := 3) rfl)) (hts (.code Lib.Math.max.name Lib.Math.max.code 2 (some .int)) (List.mem_of_getElem? (i := 7) rfl)) (Nat.le_of_ble_eq_true rfl) (Nat.le_of_ble_eq_true rfl) (Nat.zero_le _) (Nat.zero_le _) dX9_greatestPull_19 ?_
        refine lv_istore_n (lv' := [(1, .int (if v1 < (if 0 ≤ z2.1 then z2.1 else 0 - z2.1) then (if 0 ≤ z2.1 then z2.1 else 0 - z2.1) else v1)), (0, .ref th0), (2, .int v2)]) hx hb dX9_greatestPull_22 rfl hl (by decide) rfl (fun ls hl => ?_)
        refine lv_iinc (v := (v2 + (1 : Int32))) (lv' := [(2, .int (v2 + (1 : Int32))), (1, .int (if v1 < (if 0 ≤ z2.1 then z2.1 else 0 - z2.1) then (if 0 ≤ z2.1 then z2.1 else 0 - z2.1) else v1)), (0, .ref th0)]) hx hb dX9_greatestPull_23 hl (k := 2) rfl rfl (by decide) rfl (fun ls hl => ?_)
        refine lv_goto (tgt := 4) hx hb dX9_greatestPull_26 (by decide) ?_
        exact ih (if v1 < (if 0 ≤ z2.1 then z2.1 else 0 - z2.1) then (if 0 ≤ z2.1 then z2.1 else 0 - z2.1) else v1) (v2 + (1 : Int32)) _ _ ls (lv_sub hl [2, 1, 0] rfl) hP hD hS hf
  rw [f_X9_greatestPull] at hf
  refine lv_iconst (v := 0) hx hb dX9_greatestPull_0 (by decide) ?_
  refine lv_istore_n (lv' := [(1, .int (0 : Int32)), (0, .ref th0)]) hx hb dX9_greatestPull_1 rfl hl (by decide) rfl (fun ls hl => ?_)
  refine lv_iconst (v := 0) hx hb dX9_greatestPull_2 (by decide) ?_
  refine lv_istore_n (lv' := [(2, .int (0 : Int32)), (1, .int (0 : Int32)), (0, .ref th0)]) hx hb dX9_greatestPull_3 rfl hl (by decide) rfl (fun ls hl => ?_)
  exact hL4 oF (0 : Int32) (0 : Int32) _ _ ls (lv_sub hl [2, 1, 0] rfl) hP hD hS hf
theorem hd_X9_wayOf : yX9_wayOf.cls ≠ "java/lang/invoke/MethodHandle" ∧ yX9_wayOf.cls ≠ "java/lang/invoke/VarHandle" ∧ (parseMethodDescriptor yX9_wayOf.desc).map (fun d => d.parameters.length) = some 1 := by decide +kernel
set_option maxHeartbeats 4000000 in
set_option maxRecDepth 100000 in
theorem c_X9_wayOf (l : Launch) (D : va_G) (cI cZ : ClassId) (th0 : Nat) (th1 : Nat) (th2 : Nat) (th3 : Nat) (th4 : Nat) (sz : Nat) (u_th : sW) (p1 : Int32) (z : Int32 × Unit) (hf : f_X9_wayOf u_th p1 = some z) : Met l yX9_wayOf wsX9_wayOf rmX9_wayOf (va_Pc [.ref th0, .int p1] (wPr D cI cZ (cW cI cZ th0 th1 th2 th3 th4 u_th) sz)) (va_Qi (fun (r : Int32) (v : Unit) => (r, v) = z) (fun (v : Unit) t => wPo D cI cZ (va_A (cW cI cZ th0 th1 th2 th3 th4 u_th) sz) (cW cI cZ th0 th1 th2 th3 th4 u_th) t) (va_A (cW cI cZ th0 th1 th2 th3 th4 u_th) sz)) 0 0 (va_A (cW cI cZ th0 th1 th2 th3 th4 u_th) sz) := by
  refine k_enter (D := D) (cI := cI) (cZ := cZ) (wl := cW cI cZ th0 th1 th2 th3 th4 u_th) (sz := sz) (av := [.ref th0, .int p1]) (cc := cX9_wayOf) (maxL := 2) (ret := (some .int)) (Qc := fun A => va_Qi (fun (r : Int32) (v : Unit) => (r, v) = z) (fun (v : Unit) t => wPo D cI cZ (A) (cW cI cZ th0 th1 th2 th3 th4 u_th) t) (A)) (by decide) rfl (Nat.le_of_ble_eq_true rfl) ?_
  intro p e s m below meth c ls A Q H locs eQ hx hb hr hml hts hown hlocks hK hP hD hS hA hE hl
  have hown : s.vm.findClass RX9 = some m.cls := hown
  have hl : lv_has ls 2 [(0, .ref th0), (1, .int p1)] := hl
  have hi_X9 : ∀ w ∈ wsX90, w ∈ wsX9_wayOf := fun w h => List.mem_cons_of_mem _ (List.mem_append_right _ h)
  rw [f_X9_wayOf] at hf
  refine lv_iload_n hx hb dX9_wayOf_0 rfl (lv_at hl 1 rfl) ?_
  refine lv_aload_n hx hb dX9_wayOf_1 rfl (lv_at hl 0 rfl) ?_
  refine va_get (D := D) (ci := 6) (v := .int (W_friction u_th)) (C := RX9) (T := TX9) (N := 6) hx hb hts hi_X9 hown hK hP 0 rfl rfl 5 (by decide) (hts (.fieldLink RX9 28 "FairWheel$Wheel" "friction" "I") (List.mem_of_getElem? (i := 1) rfl)) (fun _ h9 => h9) rfl dX9_wayOf_2 ?_
  refine lv_icmp_le (tgt := 10) hx hb dX9_wayOf_5 (by decide) (fun c1 => ?_) (fun c1 => ?_)
  · have hf := (if_pos c1).symm.trans hf
    refine lv_iload_n hx hb dX9_wayOf_10 rfl (lv_at hl 1 rfl) ?_
    refine lv_aload_n hx hb dX9_wayOf_11 rfl (lv_at hl 0 rfl) ?_
    refine va_get (D := D) (ci := 6) (v := .int (W_friction u_th)) (C := RX9) (T := TX9) (N := 6) hx hb hts hi_X9 hown hK hP 0 rfl rfl 5 (by decide) (hts (.fieldLink RX9 28 "FairWheel$Wheel" "friction" "I") (List.mem_of_getElem? (i := 1) rfl)) (fun _ h9 => h9) rfl dX9_wayOf_12 ?_
    refine lv_ineg hx hb dX9_wayOf_15 ?_
    refine lv_icmp_ge (tgt := 23) hx hb dX9_wayOf_16 (by decide) (fun c2 => ?_) (fun c2 => ?_)
    · have hf := (if_pos c2).symm.trans hf
      refine lv_iconst (v := 0) hx hb dX9_wayOf_23 (by decide) ?_
      exact k_iret (v := (0 : Int32)) (u := ()) hx hb hr hlocks hK hS eQ hf hP hD dX9_wayOf_24
    · have hf := (if_neg c2).symm.trans hf
      refine lv_iconst (v := -1) hx hb dX9_wayOf_19 (by decide) ?_
      refine lv_goto (tgt := 24) hx hb dX9_wayOf_20 (by decide) ?_
      exact k_iret (v := (-1 : Int32)) (u := ()) hx hb hr hlocks hK hS eQ hf hP hD dX9_wayOf_24
  · have hf := (if_neg c1).symm.trans hf
    refine lv_iconst (v := 1) hx hb dX9_wayOf_8 (by decide) ?_
    exact k_iret (v := (1 : Int32)) (u := ()) hx hb hr hlocks hK hS eQ hf hP hD dX9_wayOf_9
theorem hd_X9_letGo : yX9_letGo.cls ≠ "java/lang/invoke/MethodHandle" ∧ yX9_letGo.cls ≠ "java/lang/invoke/VarHandle" ∧ (parseMethodDescriptor yX9_letGo.desc).map (fun d => d.parameters.length) = some 0 := by decide +kernel
set_option maxHeartbeats 4000000 in
set_option maxRecDepth 100000 in
theorem c_X9_letGo (l : Launch) (D : va_G) (cI cZ : ClassId) (th0 : Nat) (th1 : Nat) (th2 : Nat) (th3 : Nat) (th4 : Nat) (sz : Nat) (u_th : sW) (z : Int32 × sW) (hf : f_X9_letGo u_th = some z) : Met l yX9_letGo wsX9_letGo rmX9_letGo (va_Pc [.ref th0] (wPr D cI cZ (cW cI cZ th0 th1 th2 th3 th4 u_th) sz)) (va_Qi (fun (r : Int32) (v : sW) => (r, v) = z) (fun (v : sW) t => wPo D cI cZ (va_A (cW cI cZ th0 th1 th2 th3 th4 u_th) sz) (cW cI cZ th0 th1 th2 th3 th4 v) t) (va_A (cW cI cZ th0 th1 th2 th3 th4 u_th) sz)) 0 0 (va_A (cW cI cZ th0 th1 th2 th3 th4 u_th) sz) := by
  refine k_enter (D := D) (cI := cI) (cZ := cZ) (wl := cW cI cZ th0 th1 th2 th3 th4 u_th) (sz := sz) (av := [.ref th0]) (cc := cX9_letGo) (maxL := 5) (ret := (some .int)) (Qc := fun A => va_Qi (fun (r : Int32) (v : sW) => (r, v) = z) (fun (v : sW) t => wPo D cI cZ (A) (cW cI cZ th0 th1 th2 th3 th4 v) t) (A)) (by decide) rfl (Nat.le_of_ble_eq_true rfl) ?_
  intro p e s m below meth c ls A Q H locs eQ hx hb hr hml hts hown hlocks hK hP hD hS hA hE hl
  have hown : s.vm.findClass RX9 = some m.cls := hown
  have hl : lv_has ls 5 [(0, .ref th0)] := hl
  have hi_X9 : ∀ w ∈ wsX90, w ∈ wsX9_letGo := fun w h => List.mem_cons_of_mem _ (List.mem_append_right _ h)
  have hL20 : ∀ (n : Nat), ∀ (v1 : Int32) (v2 : Int32) (v3 : Int32) (v4 : Int32) (u_th : sW) (H : Heap) (locs : List Loc) (ls : Array Slot), lv_has ls 5 [(0, .ref th0), (1, .int v1), (2, .int v2), (3, .int v3), (4, .int v4)] → va_P D vwCl (cW cI cZ th0 th1 th2 th3 th4 u_th) H → va_D A (cW cI cZ th0 th1 th2 th3 th4 u_th) → va_S A s.heap H locs → f_X9_letGo_L20 n v1 v2 v3 v4 u_th = some z → W p l e (headSpec wsX9_letGo rmX9_letGo).room s m ([.ref th0] : List Value).toArray below meth c H locs 0 0 Q (F0 m 20 ls []) := by
    intro n
    induction n with
    | zero =>
      intro v1 v2 v3 v4 u_th H locs ls hl hP hD hS hf
      exact absurd (show (none : Option (Int32 × sW)) = some z from hf) (fun h => by cases h)
    | succ n ih =>
      intro v1 v2 v3 v4 u_th H locs ls hl hP hD hS hf
      rw [f_X9_letGo_L20] at hf
      refine lv_iload hx hb dX9_letGo_20 (lv_at hl 4 rfl) ?_
      refine lv_bipush (v := 8) hx hb dX9_letGo_22 (by decide) ?_
      refine lv_icmp_ge (tgt := 64) hx hb dX9_letGo_24 (by decide) (fun c3 => ?_) (fun c3 => ?_)
      · have hf := (if_pos c3).symm.trans hf
        refine lv_iload_n hx hb dX9_letGo_64 rfl (lv_at hl 3 rfl) ?_
        exact k_iret (v := v3) (u := u_th) hx hb hr hlocks hK hS eQ hf hP hD dX9_letGo_65
      · have hf := (if_neg c3).symm.trans hf
        refine lv_iload_n hx hb dX9_letGo_27 rfl (lv_at hl 2 rfl) ?_
        refine lv_if_eq (tgt := 64) hx hb dX9_letGo_28 (by decide) (fun c4 => ?_) (fun c4 => ?_)
        · have hf := (if_pos c4).symm.trans hf
          refine lv_iload_n hx hb dX9_letGo_64 rfl (lv_at hl 3 rfl) ?_
          exact k_iret (v := v3) (u := u_th) hx hb hr hlocks hK hS eQ hf hP hD dX9_letGo_65
        · have hf := (if_neg c4).symm.trans hf
          refine lv_iload_n hx hb dX9_letGo_31 rfl (lv_at hl 2 rfl) ?_
          refine lv_iload_n hx hb dX9_letGo_32 rfl (lv_at hl 1 rfl) ?_
          refine lv_icmp_ne (tgt := 64) hx hb dX9_letGo_33 (by decide) (fun c5 => ?_) (fun c5 => ?_)
          · have hf := (if_neg c5).symm.trans hf
            refine lv_iload_n hx hb dX9_letGo_64 rfl (lv_at hl 3 rfl) ?_
            exact k_iret (v := v3) (u := u_th) hx hb hr hlocks hK hS eQ hf hP hD dX9_letGo_65
          · have hf := (if_pos c5).symm.trans hf
            refine lv_aload_n hx hb dX9_letGo_36 rfl (lv_at hl 0 rfl) ?_
            refine lv_iload_n hx hb dX9_letGo_37 rfl (lv_at hl 1 rfl) ?_
            obtain ⟨z6, hz_z6, hf⟩ := o_bind hf
            refine k_callv (va_runV (As := [.int v1]) (rest := []) ⟨hx, hb, hml, hown, hts⟩ (c_X9_turn l D cI cZ th0 th1 th2 th3 th4 H.size u_th v1 z6 hz_z6) (cwV 1 hts gX9_letGo_X9_turn rfl rfl rfl ⟨rfl, hd_X9_turn⟩ ⟨Nat.le_of_ble_eq_true rfl, Nat.le_of_ble_eq_true rfl⟩) (k_preV hK hP hD hS hA hE [0, 1, 2, 3, 4] (by decide) rfl (ci := 6) rfl rfl) rfl rfl hl.1 rfl (lv_room (Nat.le_of_ble_eq_true rfl)) dX9_letGo_38 ⟨Nat.zero_le _, Nat.zero_le _⟩) hP hD hS hA [0, 1, 2, 3, 4] [some 0, some 1, some 2, some 3, some 4] 5 rfl (by decide) (by decide) rfl rfl (fun H locs hP hD hS => ?_)
            have hP : va_P D vwCl (cW cI cZ th0 th1 th2 th3 th4 z6) H := hP
            have hD : va_D A (cW cI cZ th0 th1 th2 th3 th4 z6) := hD
            refine lv_iload_n hx hb dX9_letGo_41 rfl (lv_at hl 3 rfl) ?_
            refine lv_iload_n hx hb dX9_letGo_42 rfl (lv_at hl 1 rfl) ?_
            refine lv_iadd hx hb dX9_letGo_43 ?_
            refine lv_istore_n (lv' := [(3, .int (v3 + v1)), (0, .ref th0), (1, .int v1), (2, .int v2), (4, .int v4)]) hx hb dX9_letGo_44 rfl hl (by decide) rfl (fun ls hl => ?_)
            refine lv_aload_n hx hb dX9_letGo_45 rfl (lv_at hl 1 rfl) ?_
            refine lv_aload_n hx hb dX9_letGo_46 rfl (lv_at hl 1 rfl) ?_
            refine lv_aload_n hx hb dX9_letGo_47 rfl (lv_at hl 1 rfl) ?_
            refine va_get (D := D) (ci := 6) (v := .int (W_lowest z6)) (C := RX9) (T := TX9) (N := 6) hx hb hts hi_X9 hown hK hP 0 rfl rfl 4 (by decide) (hts (.fieldLink RX9 24 "FairWheel$Wheel" "lowest" "I") (List.mem_of_getElem? (i := 1) rfl)) (fun _ h9 => h9) rfl dX9_letGo_48 ?_
            obtain ⟨z7, hz_z7, hf⟩ := o_bind hf
            refine k_calli (va_runV (As := [.int (W_lowest z6)]) (rest := [.ref th0]) ⟨hx, hb, hml, hown, hts⟩ (c_X9_pullAt l D cI cZ th0 th1 th2 th3 th4 H.size z6 (W_lowest z6) z7 hz_z7) (cwV 1 hts gX9_letGo_X9_pullAt rfl rfl rfl ⟨rfl, hd_X9_pullAt⟩ ⟨Nat.le_of_ble_eq_true rfl, Nat.le_of_ble_eq_true rfl⟩) (k_preV hK hP hD hS hA hE [0, 1, 2, 3, 4] (by decide) rfl (ci := 6) rfl rfl) rfl rfl hl.1 rfl (lv_room (Nat.le_of_ble_eq_true rfl)) dX9_letGo_51 ⟨Nat.zero_le _, Nat.zero_le _⟩) hP hD hS hA [0, 1, 2, 3, 4] [some 0, some 1, some 2, some 3, some 4] 5 rfl (by decide) (by decide) rfl rfl (fun H locs hP hD hS => ?_)
            have hP : va_P D vwCl (cW cI cZ th0 th1 th2 th3 th4 z6) H := hP
            have hD : va_D A (cW cI cZ th0 th1 th2 th3 th4 z6) := hD
            obtain ⟨z8, hz_z8, hf⟩ := o_bind hf
            refine k_calli (va_runV (As := [.int z7.1]) (rest := []) ⟨hx, hb, hml, hown, hts⟩ (c_X9_wayOf l D cI cZ th0 th1 th2 th3 th4 H.size z6 z7.1 z8 hz_z8) (cwV 1 hts gX9_letGo_X9_wayOf rfl rfl rfl ⟨rfl, hd_X9_wayOf⟩ ⟨Nat.le_of_ble_eq_true rfl, Nat.le_of_ble_eq_true rfl⟩) (k_preV hK hP hD hS hA hE [0, 1, 2, 3, 4] (by decide) rfl (ci := 6) rfl rfl) rfl rfl hl.1 rfl (lv_room (Nat.le_of_ble_eq_true rfl)) dX9_letGo_54 ⟨Nat.zero_le _, Nat.zero_le _⟩) hP hD hS hA [0, 1, 2, 3, 4] [some 0, some 1, some 2, some 3, some 4] 5 rfl (by decide) (by decide) rfl rfl (fun H locs hP hD hS => ?_)
            have hP : va_P D vwCl (cW cI cZ th0 th1 th2 th3 th4 z6) H := hP
            have hD : va_D A (cW cI cZ th0 th1 th2 th3 th4 z6) := hD
            refine lv_istore_n (lv' := [(2, .int z8.1), (3, .int (v3 + v1)), (0, .ref th0), (1, .int v1), (4, .int v4)]) hx hb dX9_letGo_57 rfl hl (by decide) rfl (fun ls hl => ?_)
            refine lv_iinc (v := (v4 + (1 : Int32))) (lv' := [(4, .int (v4 + (1 : Int32))), (2, .int z8.1), (3, .int (v3 + v1)), (0, .ref th0), (1, .int v1)]) hx hb dX9_letGo_58 hl (k := 4) rfl rfl (by decide) rfl (fun ls hl => ?_)
            refine lv_goto (tgt := 20) hx hb dX9_letGo_61 (by decide) ?_
            exact ih v1 z8.1 (v3 + v1) (v4 + (1 : Int32)) z6 _ _ ls (lv_sub hl [3, 4, 1, 2, 0] rfl) hP hD hS hf
  rw [f_X9_letGo] at hf
  refine lv_aload_n hx hb dX9_letGo_0 rfl (lv_at hl 0 rfl) ?_
  refine lv_aload_n hx hb dX9_letGo_1 rfl (lv_at hl 0 rfl) ?_
  refine lv_aload_n hx hb dX9_letGo_2 rfl (lv_at hl 0 rfl) ?_
  refine va_get (D := D) (ci := 6) (v := .int (W_lowest u_th)) (C := RX9) (T := TX9) (N := 6) hx hb hts hi_X9 hown hK hP 0 rfl rfl 4 (by decide) (hts (.fieldLink RX9 24 "FairWheel$Wheel" "lowest" "I") (List.mem_of_getElem? (i := 1) rfl)) (fun _ h9 => h9) rfl dX9_letGo_3 ?_
  obtain ⟨z1, hz_z1, hf⟩ := o_bind hf
  refine k_calli (va_runV (As := [.int (W_lowest u_th)]) (rest := [.ref th0]) ⟨hx, hb, hml, hown, hts⟩ (c_X9_pullAt l D cI cZ th0 th1 th2 th3 th4 H.size u_th (W_lowest u_th) z1 hz_z1) (cwV 1 hts gX9_letGo_X9_pullAt rfl rfl rfl ⟨rfl, hd_X9_pullAt⟩ ⟨Nat.le_of_ble_eq_true rfl, Nat.le_of_ble_eq_true rfl⟩) (k_preV hK hP hD hS hA hE [0, 1, 2, 3, 4] (by decide) rfl (ci := 6) rfl rfl) rfl rfl hl.1 rfl (lv_room (Nat.le_of_ble_eq_true rfl)) dX9_letGo_6 ⟨Nat.zero_le _, Nat.zero_le _⟩) hP hD hS hA [0, 1, 2, 3, 4] [some 0, some 1, some 2, some 3, some 4] 5 rfl (by decide) (by decide) rfl rfl (fun H locs hP hD hS => ?_)
  have hP : va_P D vwCl (cW cI cZ th0 th1 th2 th3 th4 u_th) H := hP
  have hD : va_D A (cW cI cZ th0 th1 th2 th3 th4 u_th) := hD
  obtain ⟨z2, hz_z2, hf⟩ := o_bind hf
  refine k_calli (va_runV (As := [.int z1.1]) (rest := []) ⟨hx, hb, hml, hown, hts⟩ (c_X9_wayOf l D cI cZ th0 th1 th2 th3 th4 H.size u_th z1.1 z2 hz_z2) (cwV 1 hts gX9_letGo_X9_wayOf rfl rfl rfl ⟨rfl, hd_X9_wayOf⟩ ⟨Nat.le_of_ble_eq_true rfl, Nat.le_of_ble_eq_true rfl⟩) (k_preV hK hP hD hS hA hE [0, 1, 2, 3, 4] (by decide) rfl (ci := 6) rfl rfl) rfl rfl hl.1 rfl (lv_room (Nat.le_of_ble_eq_true rfl)) dX9_letGo_9 ⟨Nat.zero_le _, Nat.zero_le _⟩) hP hD hS hA [0, 1, 2, 3, 4] [some 0, some 1, some 2, some 3, some 4] 5 rfl (by decide) (by decide) rfl rfl (fun H locs hP hD hS => ?_)
  have hP : va_P D vwCl (cW cI cZ th0 th1 th2 th3 th4 u_th) H := hP
  have hD : va_D A (cW cI cZ th0 th1 th2 th3 th4 u_th) := hD
  refine lv_istore_n (lv' := [(1, .int z2.1), (0, .ref th0)]) hx hb dX9_letGo_12 rfl hl (by decide) rfl (fun ls hl => ?_)
  refine lv_iload_n hx hb dX9_letGo_13 rfl (lv_at hl 0 rfl) ?_
  refine lv_istore_n (lv' := [(2, .int z2.1), (1, .int z2.1), (0, .ref th0)]) hx hb dX9_letGo_14 rfl hl (by decide) rfl (fun ls hl => ?_)
  refine lv_iconst (v := 0) hx hb dX9_letGo_15 (by decide) ?_
  refine lv_istore_n (lv' := [(3, .int (0 : Int32)), (2, .int z2.1), (1, .int z2.1), (0, .ref th0)]) hx hb dX9_letGo_16 rfl hl (by decide) rfl (fun ls hl => ?_)
  refine lv_iconst (v := 0) hx hb dX9_letGo_17 (by decide) ?_
  refine lv_istore (lv' := [(4, .int (0 : Int32)), (3, .int (0 : Int32)), (2, .int z2.1), (1, .int z2.1), (0, .ref th0)]) hx hb dX9_letGo_18 hl (by decide) rfl (fun ls hl => ?_)
  exact hL20 oF z2.1 z2.1 (0 : Int32) (0 : Int32) u_th _ _ ls (lv_sub hl [4, 3, 2, 1, 0] rfl) hP hD hS hf
