/-! BASE: types, guards, values, the judgement Rn and its rows -/
abbrev Bd : Type := Nat → Int → Int
abbrev Gr : Type := Int × (Int → Int)
abbrev PL : Type := List Gr
abbrev inR (a : Int) : Prop := -2147483648 ≤ a ∧ a ≤ 2147483647
abbrev inL (a : Int) : Prop := -9223372036854775808 ≤ a ∧ a ≤ 9223372036854775807
def ck1 {α : Type} (a : Int) (o : Option α) : Option α := if inR a then o else none
def ckL {α : Type} (a : Int) (o : Option α) : Option α := if inL a then o else none
def ckA {α : Type} (i n : Int) (o : Option α) : Option α := if 0 ≤ i ∧ i < n then o else none
def ckB {α : Type} (z : Int) (o : Option α) : Option α := if z = 0 ∨ z = 1 then o else none
def ckZ {α : Type} (z : Int) (o : Option α) : Option α := if z ≠ 0 then o else none
def ckG {α : Type} (h : Int) (P : PL) (o : Option α) : Option α := if 0 ≤ h ∧ h < (P.length : Int) then o else none
def ckN {α : Type} (h : Int) (P : PL) (o : Option α) : Option α := if h < (P.length : Int) then o else none
def ckP {α : Type} (a b : Nat) (o : Option α) : Option α := if a ≤ b then o else none
def bS {α : Type} (b : Nat → α) (k : Nat) (f : α) : Nat → α := fun j => if j = k then f else b j
def aS (f : Int → Int) (i v : Int) : Int → Int := fun j => if j = i then v else f j
def bs0 (b : Bd) (k : Nat) (v : Int) : Bd := bS b k (fun _ => v)
def bn {α β : Type} (o : Option α) (k : α → Option β) : Option β := match o with
  | none => none
  | some a => k a
def jn {α β : Type} (r : α) (b : α → β) : β := b r
def gP (P : PL) (h : Int) : Gr := P.getD h.toNat (0, fun _ => 0)
-- values
abbrev vI (z : Int) : Value := .int (Int32.ofInt z)
abbrev vL (z : Int) : Value := .long (Int64.ofInt z)
abbrev ET : Type := ClassId × ClassId × ClassId × Nat
def gA (B : Nat) (h : Int) : Option Nat := if h < 0 then none else some (B + 62 + 2 * h.toNat)
abbrev vG (B : Nat) (h : Int) : Value := va_rf (gA B h)
-- machine numbers
def i_and (x y : Int) : Int := (Int32.ofInt x &&& Int32.ofInt y).toInt
def i_or (x y : Int) : Int := (Int32.ofInt x ||| Int32.ofInt y).toInt
def i_shl (x y : Int) : Int := (Int32.ofInt x <<< (Int32.ofInt y &&& 31)).toInt
def i_shr (x y : Int) : Int := (Int32.ofInt x >>> (Int32.ofInt y &&& 31)).toInt
def l_and (x y : Int) : Int := (Int64.ofInt x &&& Int64.ofInt y).toInt
def l_or (x y : Int) : Int := (Int64.ofInt x ||| Int64.ofInt y).toInt
def l_shl (x y : Int) : Int := (Int64.ofInt x <<< ((Int32.ofInt y).toInt64 &&& 63)).toInt
def l_shr (x y : Int) : Int := (Int64.ofInt x >>> ((Int32.ofInt y).toInt64 &&& 63)).toInt
def l_cmp (x y : Int) : Int := if x < y then -1 else if x = y then 0 else 1
theorem z_i {z : Int} (h : inR z) : (Int32.ofInt z).toInt = z := Int32.toInt_ofInt_of_le h.1 (by have := h.2; omega)
theorem z_l {z : Int} (h : inL z) : (Int64.ofInt z).toInt = z := Int64.toInt_ofInt_of_le h.1 (by have := h.2; omega)
theorem z_oi (x : Int32) : Int32.ofInt x.toInt = x := Int32.ofInt_toInt x
theorem z_ol (x : Int64) : Int64.ofInt x.toInt = x := Int64.ofInt_toInt x
theorem z_ilt {x y : Int} (hx : inR x) (hy : inR y) : (Int32.ofInt x < Int32.ofInt y) ↔ x < y := by rw [Int32.lt_iff_toInt_lt, z_i hx, z_i hy]
theorem z_ile {x y : Int} (hx : inR x) (hy : inR y) : (Int32.ofInt x ≤ Int32.ofInt y) ↔ x ≤ y := by rw [Int32.le_iff_toInt_le, z_i hx, z_i hy]
theorem z_ieq {x y : Int} (hx : inR x) (hy : inR y) : (Int32.ofInt x = Int32.ofInt y) ↔ x = y := by rw [← Int32.toInt_inj, z_i hx, z_i hy]
theorem z_llt {x y : Int} (hx : inL x) (hy : inL y) : (Int64.ofInt x < Int64.ofInt y) ↔ x < y := by rw [Int64.lt_iff_toInt_lt, z_l hx, z_l hy]
theorem z_leq {x y : Int} (hx : inL x) (hy : inL y) : (Int64.ofInt x = Int64.ofInt y) ↔ x = y := by rw [← Int64.toInt_inj, z_l hx, z_l hy]
theorem z_iadd (x y : Int) : Int32.ofInt x + Int32.ofInt y = Int32.ofInt (x + y) := (Int32.ofInt_add x y).symm
theorem z_isub (x y : Int) : Int32.ofInt x - Int32.ofInt y = Int32.ofInt (x - y) := (Int32.ofInt_sub x y).symm
theorem z_imul (x y : Int) : Int32.ofInt x * Int32.ofInt y = Int32.ofInt (x * y) := (Int32.ofInt_mul x y).symm
theorem z_ladd (x y : Int) : Int64.ofInt x + Int64.ofInt y = Int64.ofInt (x + y) := (Int64.ofInt_add x y).symm
theorem z_lmul (x y : Int) : Int64.ofInt x * Int64.ofInt y = Int64.ofInt (x * y) := (Int64.ofInt_mul x y).symm
theorem z_idiv {x y : Int} (hx : inR x) (hy : inR y) : Int32.ofInt x / Int32.ofInt y = Int32.ofInt (x.tdiv y) := (Int32.ofInt_tdiv hx.1 hx.2 hy.1 hy.2).symm
theorem z_ldiv {x y : Int} (hx : inL x) (hy : inL y) : Int64.ofInt x / Int64.ofInt y = Int64.ofInt (x.tdiv y) := (Int64.ofInt_tdiv hx.1 hx.2 hy.1 hy.2).symm
theorem z_tmod (x y : Int) : x - x.tdiv y * y = x.tmod y := by have := Int.tmod_def x y; rw [this, Int.mul_comm]
theorem z_irem {x y : Int} (hx : inR x) (hy : inR y) : Int32.ofInt x - Int32.ofInt x / Int32.ofInt y * Int32.ofInt y = Int32.ofInt (x.tmod y) := by
  rw [z_idiv hx hy, z_imul, z_isub, z_tmod]
theorem z_lsub (x y : Int) : Int64.ofInt x - Int64.ofInt y = Int64.ofInt (x - y) := (Int64.ofInt_sub x y).symm
theorem z_lrem {x y : Int} (hx : inL x) (hy : inL y) : Int64.ofInt x - Int64.ofInt x / Int64.ofInt y * Int64.ofInt y = Int64.ofInt (x.tmod y) := by
  rw [z_ldiv hx hy, z_lmul, z_lsub, z_tmod]
theorem z_i2l {x : Int} (hx : inR x) : (Int32.ofInt x).toInt64 = Int64.ofInt x := by
  apply Int64.toInt_inj.mp
  rw [Int32.toInt_toInt64, z_i hx, z_l ⟨by have := hx.1; omega, by have := hx.2; omega⟩]
theorem z_l2i (x : Int) : (Int64.ofInt x).toInt32 = Int32.ofInt x := Int64.toInt32_ofInt
theorem z_clamp {x : Int} (h0 : 0 ≤ x) (h : x ≤ 2147483647) : (Int32.ofInt x).toNatClampNeg = x.toNat := by
  show (Int32.ofInt x).toInt.toNat = x.toNat
  rw [z_i ⟨by omega, h⟩]
theorem z_in {x : Int} {n : Nat} (h0 : 0 ≤ x) (h : x < n) (hn : n ≤ 2147483647) : vp_in (Int32.ofInt x) n := by
  rw [vp_in_iff, z_i ⟨by omega, by omega⟩]
  exact ⟨h0, h⟩
def f32 (f : Int → Int) : Nat → Int32 := fun k => Int32.ofInt (f k)
def f64 (f : Int → Int) : Nat → Int64 := fun k => Int64.ofInt (f k)
def fGr (B : Nat) (f : Int → Int) : Nat → Option Nat := fun k => gA B (f k)
theorem f32_set (f : Int → Int) {i : Int} (h0 : 0 ≤ i) (v : Int) : upd (f32 f) i.toNat (Int32.ofInt v) = f32 (aS f i v) := by
  funext k
  unfold upd f32 aS
  by_cases h : k = i.toNat
  · rw [if_pos h, if_pos (by omega)]
  · rw [if_neg h, if_neg (by omega)]
theorem f64_set (f : Int → Int) {i : Int} (h0 : 0 ≤ i) (v : Int) : vp_updL (f64 f) i.toNat (Int64.ofInt v) = f64 (aS f i v) := by
  funext k
  unfold vp_updL f64 aS
  by_cases h : k = i.toNat
  · rw [if_pos h, if_pos (by omega)]
  · rw [if_neg h, if_neg (by omega)]
theorem fGr_set (B : Nat) (f : Int → Int) {i : Int} (h0 : 0 ≤ i) (v : Int) : va_up (fGr B f) i.toNat (gA B v) = fGr B (aS f i v) := by
  funext k
  unfold va_up fGr aS
  by_cases h : k = i.toNat
  · rw [if_pos h, if_pos (by omega)]
  · rw [if_neg h, if_neg (by omega)]
abbrev KT : Type := (Program × Launch × Env × Room × State) × (MethodId × Array Value × List Frame × Method × Code) × (va_G × ET) × Nat
abbrev kS (K : KT) : State := K.1.2.2.2.2
abbrev kE (K : KT) : ET := K.2.2.1.2
abbrev kB (K : KT) : Nat := K.2.2.1.2.2.2.2
def Zt (E : ET) : List (ClassId × FieldType) := [(E.1, .int), (E.2.1, .long), (E.2.2.1, .object "LoopTypes$Graph")]
def Znw (U : State) : Prop := (∀ q ∈ Zn, va_Nw (.methodLinkNest q.1 q.2.1 q.2.2.1 q.2.2.2) U) ∧ va_AO "LoopTypes$Graph" U
theorem Znw.moved {s U : State} (hW : s.WarmedH U.vm) (h : Znw s) : Znw U := ⟨fun q hq => va_Nw.warmM hW (h.1 q hq), h.2.moved hW.alike⟩
theorem Znw.same {s U : State} (hv : s.vm = U.vm) (h : Znw s) : Znw U := ⟨fun q hq => va_Nw.same rfl hv (h.1 q hq), h.2.moved (by rw [← hv]; exact Vm.Alike.refl s.vm)⟩
def Zd (B : Nat) (ws : va_W) : Prop := ∀ (k : Nat) (q : Nat × va_E), ws[k]? = some q → q.1 = B + k
theorem Zd.D {B : Nat} {ws : va_W} (h : Zd B ws) : va_D (fun q => B ≤ q) ws := by
  refine ⟨fun i j p q hi hj e => ?_, fun k q hk => ?_⟩
  · have h1 := h i p hi
    have h2 := h j q hj
    omega
  · have h1 := h k q hk
    show B ≤ q.1
    omega
theorem Zd.set {B : Nat} {ws : va_W} (h : Zd B ws) {k a : Nat} {e0 e : va_E} (hk : ws[k]? = some (a, e0)) : Zd B (ws.set k (a, e)) := by
  intro j q hj
  have hlt := (List.getElem?_eq_some_iff.mp hk).1
  by_cases hjk : k = j
  · subst hjk
    rw [List.getElem?_set_self hlt] at hj
    cases hj
    have q0 := h k (a, e0) hk
    exact q0
  · rw [List.getElem?_set_ne hjk] at hj
    exact h j q hj
def Rn (K : KT) {α : Type} (Qf : α → State → Prop) (cl sl : Nat) (o : Option α) (pc : Nat) (lv : List (Nat × Value)) (st : List Value) (ws : va_W) : Prop :=
  ∀ a, o = some a → Zd (kB K) ws → ∀ (H : Heap) (locs : List Loc) (ls : Array Slot), H.size = kB K + ws.length → va_P K.2.2.1.1 vwCl ws H → va_S (fun q => kB K ≤ q) (kS K).heap H locs → lv_has ls K.2.2.2 lv →
    W K.1.1 K.1.2.1 K.1.2.2.1 K.1.2.2.2.1 K.1.2.2.2.2 K.2.1.1 K.2.1.2.1 K.2.1.2.2.1 K.2.1.2.2.2.1 K.2.1.2.2.2.2 H locs cl sl (Qf a) (F0 K.2.1.1 pc ls st)
/-- what holds of a context: the machine, the code, the words, the classes, the room, the answer's type -/
def Kok (K : KT) (cc : ByteArray) (own : String) (Ts : List Cond) (R0 : Room) (rt : Option FieldType) (nL : Nat) : Prop :=
  K.1.1.tables.exec = Jvm.exec ∧ K.2.1.2.2.2.2.code = cc ∧ K.2.1.2.2.2.2.maxLocals = K.2.2.2 ∧ (kS K).vm.findClass own = some K.2.1.1.cls ∧ (∀ w ∈ Ts, w.before K.2.1.2.1 (kS K) = true) ∧
  va_K K.2.2.1.1 vwCl (Zt (kE K)) (kS K) ∧ Znw (kS K) ∧ K.2.1.2.2.2.1.locks = false ∧ K.1.2.2.2.1 = R0 ∧ K.2.1.2.2.2.1.sig.returnType = rt ∧ K.2.2.2 = nL ∧ kB K ≤ (kS K).heap.size
def Zp (E : ET) : Nat → PL → va_W
  | _, [] => []
  | k, g :: gs => (E.2.2.2 + (61 + 2 * k), .inl (E.1, (3 * g.1).toNat, .inl (f32 g.2))) :: (E.2.2.2 + (62 + 2 * k), .inr (2, [vI g.1, .ref (E.2.2.2 + (61 + 2 * k))])) :: Zp E (k + 1) gs
def Zf (E : ET) (lt b c ms rd m : Bd) : va_W := [(E.2.2.2 + 0, .inr (5, [.ref (E.2.2.2 + 1), vI (lt 1 0), vI (lt 2 0), .ref (E.2.2.2 + 2), .ref (E.2.2.2 + 3), .ref (E.2.2.2 + 4), vI (lt 6 0), vI (lt 7 0), vI (lt 8 0), vI (lt 9 0), vI (lt 10 0), .ref (E.2.2.2 + 5), .ref (E.2.2.2 + 15), .ref (E.2.2.2 + 19), .ref (E.2.2.2 + 24)])),
  (E.2.2.2 + 1, .inl (E.1, 120, .inl (f32 (lt 0)))),
  (E.2.2.2 + 2, .inl (E.2.2.1, 8, .inr (.inr (.inr (.inr (fGr E.2.2.2 (lt 3))))))),
  (E.2.2.2 + 3, .inl (E.2.2.1, 8, .inr (.inr (.inr (.inr (fGr E.2.2.2 (lt 4))))))),
  (E.2.2.2 + 4, .inl (E.2.2.1, 64, .inr (.inr (.inr (.inr (fGr E.2.2.2 (lt 5))))))),
  (E.2.2.2 + 5, .inr (0, [.ref (E.2.2.2 + 6), .ref (E.2.2.2 + 7), .ref (E.2.2.2 + 8), vI (b 3 0), .ref (E.2.2.2 + 9), .ref (E.2.2.2 + 10), .ref (E.2.2.2 + 11), .ref (E.2.2.2 + 12), .ref (E.2.2.2 + 13), .ref (E.2.2.2 + 14)])),
  (E.2.2.2 + 6, .inl (E.1, 3280, .inl (f32 (b 0)))),
  (E.2.2.2 + 7, .inl (E.1, 3280, .inl (f32 (b 1)))),
  (E.2.2.2 + 8, .inl (E.1, 3280, .inl (f32 (b 2)))),
  (E.2.2.2 + 9, .inl (E.1, 3280, .inl (f32 (b 4)))),
  (E.2.2.2 + 10, .inl (E.1, 3280, .inl (f32 (b 5)))),
  (E.2.2.2 + 11, .inl (E.1, 3280, .inl (f32 (b 6)))),
  (E.2.2.2 + 12, .inl (E.1, 3280, .inl (f32 (b 7)))),
  (E.2.2.2 + 13, .inl (E.1, 11200, .inl (f32 (b 8)))),
  (E.2.2.2 + 14, .inl (E.1, 40, .inl (f32 (b 9)))),
  (E.2.2.2 + 15, .inr (1, [vG E.2.2.2 (c 0 0), vG E.2.2.2 (c 1 0), .ref (E.2.2.2 + 16), vI (c 3 0), .ref (E.2.2.2 + 17), .ref (E.2.2.2 + 18)])),
  (E.2.2.2 + 16, .inl (E.1, 3200, .inl (f32 (c 2)))),
  (E.2.2.2 + 17, .inl (E.1, 3200, .inl (f32 (c 4)))),
  (E.2.2.2 + 18, .inl (E.1, 3200, .inl (f32 (c 5)))),
  (E.2.2.2 + 19, .inr (3, [.ref (E.2.2.2 + 20), .ref (E.2.2.2 + 21), .ref (E.2.2.2 + 22), .ref (E.2.2.2 + 23)])),
  (E.2.2.2 + 20, .inl (E.1, 40, .inl (f32 (ms 0)))),
  (E.2.2.2 + 21, .inl (E.1, 40, .inl (f32 (ms 1)))),
  (E.2.2.2 + 22, .inl (E.1, 40, .inl (f32 (ms 2)))),
  (E.2.2.2 + 23, .inl (E.2.1, 40, .inr (.inl (f64 (ms 3))))),
  (E.2.2.2 + 24, .inr (4, [vI (rd 0 0), vI (rd 1 0), .ref (E.2.2.2 + 25), .ref (E.2.2.2 + 26), .ref (E.2.2.2 + 27), vI (rd 5 0), .ref (E.2.2.2 + 28), vI (rd 7 0), .ref (E.2.2.2 + 29), vI (rd 9 0), .ref (E.2.2.2 + 30), vI (rd 11 0), .ref (E.2.2.2 + 31), .ref (E.2.2.2 + 32), .ref (E.2.2.2 + 33), .ref (E.2.2.2 + 34)])),
  (E.2.2.2 + 25, .inl (E.1, 120, .inl (f32 (rd 2)))),
  (E.2.2.2 + 26, .inl (E.1, 120, .inl (f32 (rd 3)))),
  (E.2.2.2 + 27, .inl (E.1, 120, .inl (f32 (rd 4)))),
  (E.2.2.2 + 28, .inl (E.1, 120, .inl (f32 (rd 6)))),
  (E.2.2.2 + 29, .inl (E.1, 120, .inl (f32 (rd 8)))),
  (E.2.2.2 + 30, .inl (E.1, 8, .inl (f32 (rd 10)))),
  (E.2.2.2 + 31, .inl (E.1, 8, .inl (f32 (rd 12)))),
  (E.2.2.2 + 32, .inl (E.1, 8, .inl (f32 (rd 13)))),
  (E.2.2.2 + 33, .inl (E.1, 120, .inl (f32 (rd 14)))),
  (E.2.2.2 + 34, .inl (E.1, 8, .inl (f32 (rd 15)))),
  (E.2.2.2 + 35, .inr (6, [.ref (E.2.2.2 + 36), .ref (E.2.2.2 + 37), .ref (E.2.2.2 + 38), .ref (E.2.2.2 + 39), vI (m 4 0), .ref (E.2.2.2 + 40), vI (m 6 0), .ref (E.2.2.2 + 41), vI (m 8 0), .ref (E.2.2.2 + 42), vI (m 10 0), .ref (E.2.2.2 + 43), .ref (E.2.2.2 + 44), .ref (E.2.2.2 + 45), .ref (E.2.2.2 + 46), .ref (E.2.2.2 + 47), .ref (E.2.2.2 + 48), vI (m 17 0), .ref (E.2.2.2 + 49), .ref (E.2.2.2 + 50), .ref (E.2.2.2 + 51), .ref (E.2.2.2 + 52), vI (m 22 0), .ref (E.2.2.2 + 53), .ref (E.2.2.2 + 54), .ref (E.2.2.2 + 55), vI (m 26 0), .ref (E.2.2.2 + 56), vI (m 28 0), .ref (E.2.2.2 + 57), vI (m 30 0), .ref (E.2.2.2 + 58), .ref (E.2.2.2 + 59), vI (m 33 0), .ref (E.2.2.2 + 60)])),
  (E.2.2.2 + 36, .inl (E.1, 8, .inl (f32 (m 0)))),
  (E.2.2.2 + 37, .inl (E.1, 320, .inl (f32 (m 1)))),
  (E.2.2.2 + 38, .inl (E.1, 2560, .inl (f32 (m 2)))),
  (E.2.2.2 + 39, .inl (E.1, 64, .inl (f32 (m 3)))),
  (E.2.2.2 + 40, .inl (E.1, 3, .inl (f32 (m 5)))),
  (E.2.2.2 + 41, .inl (E.1, 120, .inl (f32 (m 7)))),
  (E.2.2.2 + 42, .inl (E.1, 3400, .inl (f32 (m 9)))),
  (E.2.2.2 + 43, .inl (E.1, 3400, .inl (f32 (m 11)))),
  (E.2.2.2 + 44, .inl (E.1, 3400, .inl (f32 (m 12)))),
  (E.2.2.2 + 45, .inl (E.1, 3400, .inl (f32 (m 13)))),
  (E.2.2.2 + 46, .inl (E.1, 3400, .inl (f32 (m 14)))),
  (E.2.2.2 + 47, .inl (E.1, 90, .inl (f32 (m 15)))),
  (E.2.2.2 + 48, .inl (E.1, 41, .inl (f32 (m 16)))),
  (E.2.2.2 + 49, .inl (E.1, 6400, .inl (f32 (m 18)))),
  (E.2.2.2 + 50, .inl (E.1, 6400, .inl (f32 (m 19)))),
  (E.2.2.2 + 51, .inl (E.1, 6400, .inl (f32 (m 20)))),
  (E.2.2.2 + 52, .inl (E.1, 6400, .inl (f32 (m 21)))),
  (E.2.2.2 + 53, .inl (E.1, 8, .inl (f32 (m 23)))),
  (E.2.2.2 + 54, .inl (E.1, 8, .inl (f32 (m 24)))),
  (E.2.2.2 + 55, .inl (E.1, 130, .inl (f32 (m 25)))),
  (E.2.2.2 + 56, .inl (E.1, 130, .inl (f32 (m 27)))),
  (E.2.2.2 + 57, .inl (E.1, 130, .inl (f32 (m 29)))),
  (E.2.2.2 + 58, .inl (E.1, 320, .inl (f32 (m 31)))),
  (E.2.2.2 + 59, .inl (E.1, 8, .inl (f32 (m 32)))),
  (E.2.2.2 + 60, .inl (E.2.1, 40, .inr (.inl (f64 (m 34)))))]
def Zw (E : ET) (lt b c ms rd m : Bd) (P : PL) : va_W := Zf E lt b c ms rd m ++ Zp E 0 P
theorem Zf_len (E : ET) (lt b c ms rd m : Bd) : (Zf E lt b c ms rd m).length = 61 := rfl
theorem Zp_len (E : ET) (P : PL) : ∀ k, (Zp E k P).length = 2 * P.length := by
  induction P with
  | nil => intro k; rfl
  | cons g gs ih => intro k; simp only [Zp, List.length_cons, ih]; omega
theorem Zw_len (E : ET) (lt b c ms rd m : Bd) (P : PL) : (Zw E lt b c ms rd m P).length = 61 + 2 * P.length := by
  unfold Zw
  rw [List.length_append, Zf_len, Zp_len]
theorem Zp_obj (E : ET) (P : PL) : ∀ (k j : Nat) (g : Gr), P[j]? = some g → (Zp E k P)[2 * j + 1]? = some (E.2.2.2 + (62 + 2 * (k + j)), .inr (2, [vI g.1, .ref (E.2.2.2 + (61 + 2 * (k + j)))])) := by
  induction P with
  | nil => intro k j g h; simp at h
  | cons g0 gs ih =>
    intro k j g h
    cases j with
    | zero => simp at h; subst h; rfl
    | succ j =>
      have h' : gs[j]? = some g := by simpa using h
      have := ih (k + 1) j g h'
      rw [show 2 * (j + 1) + 1 = (2 * j + 1) + 1 + 1 by omega]
      simp only [Zp, List.getElem?_cons_succ]
      rw [this, show k + 1 + j = k + (j + 1) by omega]
theorem Zp_arr (E : ET) (P : PL) : ∀ (k j : Nat) (g : Gr), P[j]? = some g → (Zp E k P)[2 * j]? = some (E.2.2.2 + (61 + 2 * (k + j)), .inl (E.1, (3 * g.1).toNat, .inl (f32 g.2))) := by
  induction P with
  | nil => intro k j g h; simp at h
  | cons g0 gs ih =>
    intro k j g h
    cases j with
    | zero => simp at h; subst h; rfl
    | succ j =>
      have h' : gs[j]? = some g := by simpa using h
      have := ih (k + 1) j g h'
      rw [show 2 * (j + 1) = (2 * j) + 1 + 1 by omega]
      simp only [Zp, List.getElem?_cons_succ]
      rw [this, show k + 1 + j = k + (j + 1) by omega]
theorem gP_at {P : PL} {h : Int} (h0 : 0 ≤ h ∧ h < (P.length : Int)) : P[h.toNat]? = some (gP P h) := by
  have hl : h.toNat < P.length := by omega
  unfold gP
  rw [List.getD_eq_getElem?_getD, List.getElem?_eq_getElem hl]
  rfl
theorem zg_gobj {E : ET} {lt b c ms rd m : Bd} {P : PL} {h : Int} (h0 : 0 ≤ h ∧ h < (P.length : Int)) : (Zw E lt b c ms rd m P)[62 + 2 * h.toNat]? = some (E.2.2.2 + 62 + 2 * h.toNat, .inr (2, [vI (gP P h).1, .ref (E.2.2.2 + 61 + 2 * h.toNat)])) := by
  unfold Zw
  rw [List.getElem?_append_right (by rw [Zf_len]; omega), Zf_len, show 62 + 2 * h.toNat - 61 = 2 * h.toNat + 1 by omega, Zp_obj E P 0 h.toNat _ (gP_at h0)]
  rw [show E.2.2.2 + (62 + 2 * (0 + h.toNat)) = E.2.2.2 + 62 + 2 * h.toNat by omega, show E.2.2.2 + (61 + 2 * (0 + h.toNat)) = E.2.2.2 + 61 + 2 * h.toNat by omega]
theorem zg_garr {E : ET} {lt b c ms rd m : Bd} {P : PL} {h : Int} (h0 : 0 ≤ h ∧ h < (P.length : Int)) : (Zw E lt b c ms rd m P)[61 + 2 * h.toNat]? = some (E.2.2.2 + 61 + 2 * h.toNat, .inl (E.1, (3 * (gP P h).1).toNat, .inl (f32 (gP P h).2))) := by
  unfold Zw
  rw [List.getElem?_append_right (by rw [Zf_len]; omega), Zf_len, show 61 + 2 * h.toNat - 61 = 2 * h.toNat by omega, Zp_arr E P 0 h.toNat _ (gP_at h0)]
  rw [show E.2.2.2 + (61 + 2 * (0 + h.toNat)) = E.2.2.2 + 61 + 2 * h.toNat by omega]
theorem Zd_app {B : Nat} {w1 w2 : va_W} (h1 : Zd B w1) (h2 : ∀ (k : Nat) (q : Nat × va_E), w2[k]? = some q → q.1 = B + (w1.length + k)) : Zd B (w1 ++ w2) := by
  intro k q hk
  by_cases h : k < w1.length
  · rw [List.getElem?_append_left h] at hk
    exact h1 k q hk
  · rw [List.getElem?_append_right (by omega)] at hk
    have := h2 _ _ hk
    omega
theorem Zf_addr (E : ET) (lt b c ms rd m : Bd) : (Zf E lt b c ms rd m).map (fun q => q.1) = (List.range 61).map (fun k => E.2.2.2 + k) := rfl
theorem Zf_d (E : ET) (lt b c ms rd m : Bd) : Zd E.2.2.2 (Zf E lt b c ms rd m) := by
  intro k q hk
  have h := congrArg (fun l => l[k]?) (Zf_addr E lt b c ms rd m)
  simp only [List.getElem?_map, hk, Option.map_some] at h
  have hl := (List.getElem?_eq_some_iff.mp hk).1
  rw [Zf_len] at hl
  rw [List.getElem?_range hl] at h
  simpa using h
theorem Zp_d (E : ET) (P : PL) : ∀ (n k : Nat) (q : Nat × va_E), (Zp E n P)[k]? = some q → q.1 = E.2.2.2 + (61 + (2 * n + k)) := by
  induction P with
  | nil => intro n k q h; simp [Zp] at h
  | cons g gs ih =>
    intro n k q h
    match k, h with
    | 0, h => simp [Zp] at h; rw [← h]; rfl
    | 1, h => simp [Zp] at h; rw [← h]; show E.2.2.2 + (62 + 2 * n) = _; omega
    | k + 2, h =>
      simp only [Zp, List.getElem?_cons_succ] at h
      have := ih (n + 1) k q h
      omega
theorem Zw_d (E : ET) (lt b c ms rd m : Bd) (P : PL) : Zd E.2.2.2 (Zw E lt b c ms rd m P) := by
  unfold Zw
  refine Zd_app (Zf_d E lt b c ms rd m) (fun k q hk => ?_)
  have := Zp_d E P 0 k q hk
  rw [Zf_len]
  omega
theorem z_rf {B : Nat} {h : Int} (hh : 0 ≤ h) : vG B h = .ref (B + 62 + 2 * h.toNat) := by
  unfold vG gA
  rw [if_neg (by omega)]
  rfl
theorem zl_3 : 3 ≤ 2147483647 ∧ ((3 : Nat) : Int) = 3 := ⟨by decide, rfl⟩
theorem zl_8 : 8 ≤ 2147483647 ∧ ((8 : Nat) : Int) = 8 := ⟨by decide, rfl⟩
theorem zl_40 : 40 ≤ 2147483647 ∧ ((40 : Nat) : Int) = 40 := ⟨by decide, rfl⟩
theorem zl_41 : 41 ≤ 2147483647 ∧ ((41 : Nat) : Int) = 41 := ⟨by decide, rfl⟩
theorem zl_64 : 64 ≤ 2147483647 ∧ ((64 : Nat) : Int) = 64 := ⟨by decide, rfl⟩
theorem zl_90 : 90 ≤ 2147483647 ∧ ((90 : Nat) : Int) = 90 := ⟨by decide, rfl⟩
theorem zl_120 : 120 ≤ 2147483647 ∧ ((120 : Nat) : Int) = 120 := ⟨by decide, rfl⟩
theorem zl_130 : 130 ≤ 2147483647 ∧ ((130 : Nat) : Int) = 130 := ⟨by decide, rfl⟩
theorem zl_320 : 320 ≤ 2147483647 ∧ ((320 : Nat) : Int) = 320 := ⟨by decide, rfl⟩
theorem zl_2560 : 2560 ≤ 2147483647 ∧ ((2560 : Nat) : Int) = 2560 := ⟨by decide, rfl⟩
theorem zl_3200 : 3200 ≤ 2147483647 ∧ ((3200 : Nat) : Int) = 3200 := ⟨by decide, rfl⟩
theorem zl_3280 : 3280 ≤ 2147483647 ∧ ((3280 : Nat) : Int) = 3280 := ⟨by decide, rfl⟩
theorem zl_3400 : 3400 ≤ 2147483647 ∧ ((3400 : Nat) : Int) = 3400 := ⟨by decide, rfl⟩
theorem zl_6400 : 6400 ≤ 2147483647 ∧ ((6400 : Nat) : Int) = 6400 := ⟨by decide, rfl⟩
theorem zl_11200 : 11200 ≤ 2147483647 ∧ ((11200 : Nat) : Int) = 11200 := ⟨by decide, rfl⟩
theorem zg_1 {E : ET} {lt b c ms rd m : Bd} {P : PL} : (Zw E lt b c ms rd m P)[1]? = some (E.2.2.2 + 1, .inl (E.1, 120, .inl (f32 (lt 0)))) := rfl
theorem zg_2 {E : ET} {lt b c ms rd m : Bd} {P : PL} : (Zw E lt b c ms rd m P)[2]? = some (E.2.2.2 + 2, .inl (E.2.2.1, 8, .inr (.inr (.inr (.inr (fGr E.2.2.2 (lt 3))))))) := rfl
theorem zg_3 {E : ET} {lt b c ms rd m : Bd} {P : PL} : (Zw E lt b c ms rd m P)[3]? = some (E.2.2.2 + 3, .inl (E.2.2.1, 8, .inr (.inr (.inr (.inr (fGr E.2.2.2 (lt 4))))))) := rfl
theorem zg_4 {E : ET} {lt b c ms rd m : Bd} {P : PL} : (Zw E lt b c ms rd m P)[4]? = some (E.2.2.2 + 4, .inl (E.2.2.1, 64, .inr (.inr (.inr (.inr (fGr E.2.2.2 (lt 5))))))) := rfl
theorem zg_6 {E : ET} {lt b c ms rd m : Bd} {P : PL} : (Zw E lt b c ms rd m P)[6]? = some (E.2.2.2 + 6, .inl (E.1, 3280, .inl (f32 (b 0)))) := rfl
theorem zg_7 {E : ET} {lt b c ms rd m : Bd} {P : PL} : (Zw E lt b c ms rd m P)[7]? = some (E.2.2.2 + 7, .inl (E.1, 3280, .inl (f32 (b 1)))) := rfl
theorem zg_8 {E : ET} {lt b c ms rd m : Bd} {P : PL} : (Zw E lt b c ms rd m P)[8]? = some (E.2.2.2 + 8, .inl (E.1, 3280, .inl (f32 (b 2)))) := rfl
theorem zg_9 {E : ET} {lt b c ms rd m : Bd} {P : PL} : (Zw E lt b c ms rd m P)[9]? = some (E.2.2.2 + 9, .inl (E.1, 3280, .inl (f32 (b 4)))) := rfl
theorem zg_10 {E : ET} {lt b c ms rd m : Bd} {P : PL} : (Zw E lt b c ms rd m P)[10]? = some (E.2.2.2 + 10, .inl (E.1, 3280, .inl (f32 (b 5)))) := rfl
theorem zg_11 {E : ET} {lt b c ms rd m : Bd} {P : PL} : (Zw E lt b c ms rd m P)[11]? = some (E.2.2.2 + 11, .inl (E.1, 3280, .inl (f32 (b 6)))) := rfl
theorem zg_12 {E : ET} {lt b c ms rd m : Bd} {P : PL} : (Zw E lt b c ms rd m P)[12]? = some (E.2.2.2 + 12, .inl (E.1, 3280, .inl (f32 (b 7)))) := rfl
theorem zg_13 {E : ET} {lt b c ms rd m : Bd} {P : PL} : (Zw E lt b c ms rd m P)[13]? = some (E.2.2.2 + 13, .inl (E.1, 11200, .inl (f32 (b 8)))) := rfl
theorem zg_14 {E : ET} {lt b c ms rd m : Bd} {P : PL} : (Zw E lt b c ms rd m P)[14]? = some (E.2.2.2 + 14, .inl (E.1, 40, .inl (f32 (b 9)))) := rfl
theorem zg_16 {E : ET} {lt b c ms rd m : Bd} {P : PL} : (Zw E lt b c ms rd m P)[16]? = some (E.2.2.2 + 16, .inl (E.1, 3200, .inl (f32 (c 2)))) := rfl
theorem zg_17 {E : ET} {lt b c ms rd m : Bd} {P : PL} : (Zw E lt b c ms rd m P)[17]? = some (E.2.2.2 + 17, .inl (E.1, 3200, .inl (f32 (c 4)))) := rfl
theorem zg_18 {E : ET} {lt b c ms rd m : Bd} {P : PL} : (Zw E lt b c ms rd m P)[18]? = some (E.2.2.2 + 18, .inl (E.1, 3200, .inl (f32 (c 5)))) := rfl
theorem zg_20 {E : ET} {lt b c ms rd m : Bd} {P : PL} : (Zw E lt b c ms rd m P)[20]? = some (E.2.2.2 + 20, .inl (E.1, 40, .inl (f32 (ms 0)))) := rfl
theorem zg_21 {E : ET} {lt b c ms rd m : Bd} {P : PL} : (Zw E lt b c ms rd m P)[21]? = some (E.2.2.2 + 21, .inl (E.1, 40, .inl (f32 (ms 1)))) := rfl
theorem zg_22 {E : ET} {lt b c ms rd m : Bd} {P : PL} : (Zw E lt b c ms rd m P)[22]? = some (E.2.2.2 + 22, .inl (E.1, 40, .inl (f32 (ms 2)))) := rfl
theorem zg_23 {E : ET} {lt b c ms rd m : Bd} {P : PL} : (Zw E lt b c ms rd m P)[23]? = some (E.2.2.2 + 23, .inl (E.2.1, 40, .inr (.inl (f64 (ms 3))))) := rfl
theorem zg_25 {E : ET} {lt b c ms rd m : Bd} {P : PL} : (Zw E lt b c ms rd m P)[25]? = some (E.2.2.2 + 25, .inl (E.1, 120, .inl (f32 (rd 2)))) := rfl
theorem zg_26 {E : ET} {lt b c ms rd m : Bd} {P : PL} : (Zw E lt b c ms rd m P)[26]? = some (E.2.2.2 + 26, .inl (E.1, 120, .inl (f32 (rd 3)))) := rfl
theorem zg_27 {E : ET} {lt b c ms rd m : Bd} {P : PL} : (Zw E lt b c ms rd m P)[27]? = some (E.2.2.2 + 27, .inl (E.1, 120, .inl (f32 (rd 4)))) := rfl
theorem zg_28 {E : ET} {lt b c ms rd m : Bd} {P : PL} : (Zw E lt b c ms rd m P)[28]? = some (E.2.2.2 + 28, .inl (E.1, 120, .inl (f32 (rd 6)))) := rfl
theorem zg_29 {E : ET} {lt b c ms rd m : Bd} {P : PL} : (Zw E lt b c ms rd m P)[29]? = some (E.2.2.2 + 29, .inl (E.1, 120, .inl (f32 (rd 8)))) := rfl
theorem zg_30 {E : ET} {lt b c ms rd m : Bd} {P : PL} : (Zw E lt b c ms rd m P)[30]? = some (E.2.2.2 + 30, .inl (E.1, 8, .inl (f32 (rd 10)))) := rfl
theorem zg_31 {E : ET} {lt b c ms rd m : Bd} {P : PL} : (Zw E lt b c ms rd m P)[31]? = some (E.2.2.2 + 31, .inl (E.1, 8, .inl (f32 (rd 12)))) := rfl
theorem zg_32 {E : ET} {lt b c ms rd m : Bd} {P : PL} : (Zw E lt b c ms rd m P)[32]? = some (E.2.2.2 + 32, .inl (E.1, 8, .inl (f32 (rd 13)))) := rfl
theorem zg_33 {E : ET} {lt b c ms rd m : Bd} {P : PL} : (Zw E lt b c ms rd m P)[33]? = some (E.2.2.2 + 33, .inl (E.1, 120, .inl (f32 (rd 14)))) := rfl
theorem zg_34 {E : ET} {lt b c ms rd m : Bd} {P : PL} : (Zw E lt b c ms rd m P)[34]? = some (E.2.2.2 + 34, .inl (E.1, 8, .inl (f32 (rd 15)))) := rfl
theorem zg_36 {E : ET} {lt b c ms rd m : Bd} {P : PL} : (Zw E lt b c ms rd m P)[36]? = some (E.2.2.2 + 36, .inl (E.1, 8, .inl (f32 (m 0)))) := rfl
theorem zg_37 {E : ET} {lt b c ms rd m : Bd} {P : PL} : (Zw E lt b c ms rd m P)[37]? = some (E.2.2.2 + 37, .inl (E.1, 320, .inl (f32 (m 1)))) := rfl
theorem zg_38 {E : ET} {lt b c ms rd m : Bd} {P : PL} : (Zw E lt b c ms rd m P)[38]? = some (E.2.2.2 + 38, .inl (E.1, 2560, .inl (f32 (m 2)))) := rfl
theorem zg_39 {E : ET} {lt b c ms rd m : Bd} {P : PL} : (Zw E lt b c ms rd m P)[39]? = some (E.2.2.2 + 39, .inl (E.1, 64, .inl (f32 (m 3)))) := rfl
theorem zg_40 {E : ET} {lt b c ms rd m : Bd} {P : PL} : (Zw E lt b c ms rd m P)[40]? = some (E.2.2.2 + 40, .inl (E.1, 3, .inl (f32 (m 5)))) := rfl
theorem zg_41 {E : ET} {lt b c ms rd m : Bd} {P : PL} : (Zw E lt b c ms rd m P)[41]? = some (E.2.2.2 + 41, .inl (E.1, 120, .inl (f32 (m 7)))) := rfl
theorem zg_42 {E : ET} {lt b c ms rd m : Bd} {P : PL} : (Zw E lt b c ms rd m P)[42]? = some (E.2.2.2 + 42, .inl (E.1, 3400, .inl (f32 (m 9)))) := rfl
theorem zg_43 {E : ET} {lt b c ms rd m : Bd} {P : PL} : (Zw E lt b c ms rd m P)[43]? = some (E.2.2.2 + 43, .inl (E.1, 3400, .inl (f32 (m 11)))) := rfl
theorem zg_44 {E : ET} {lt b c ms rd m : Bd} {P : PL} : (Zw E lt b c ms rd m P)[44]? = some (E.2.2.2 + 44, .inl (E.1, 3400, .inl (f32 (m 12)))) := rfl
theorem zg_45 {E : ET} {lt b c ms rd m : Bd} {P : PL} : (Zw E lt b c ms rd m P)[45]? = some (E.2.2.2 + 45, .inl (E.1, 3400, .inl (f32 (m 13)))) := rfl
theorem zg_46 {E : ET} {lt b c ms rd m : Bd} {P : PL} : (Zw E lt b c ms rd m P)[46]? = some (E.2.2.2 + 46, .inl (E.1, 3400, .inl (f32 (m 14)))) := rfl
theorem zg_47 {E : ET} {lt b c ms rd m : Bd} {P : PL} : (Zw E lt b c ms rd m P)[47]? = some (E.2.2.2 + 47, .inl (E.1, 90, .inl (f32 (m 15)))) := rfl
theorem zg_48 {E : ET} {lt b c ms rd m : Bd} {P : PL} : (Zw E lt b c ms rd m P)[48]? = some (E.2.2.2 + 48, .inl (E.1, 41, .inl (f32 (m 16)))) := rfl
theorem zg_49 {E : ET} {lt b c ms rd m : Bd} {P : PL} : (Zw E lt b c ms rd m P)[49]? = some (E.2.2.2 + 49, .inl (E.1, 6400, .inl (f32 (m 18)))) := rfl
theorem zg_50 {E : ET} {lt b c ms rd m : Bd} {P : PL} : (Zw E lt b c ms rd m P)[50]? = some (E.2.2.2 + 50, .inl (E.1, 6400, .inl (f32 (m 19)))) := rfl
theorem zg_51 {E : ET} {lt b c ms rd m : Bd} {P : PL} : (Zw E lt b c ms rd m P)[51]? = some (E.2.2.2 + 51, .inl (E.1, 6400, .inl (f32 (m 20)))) := rfl
theorem zg_52 {E : ET} {lt b c ms rd m : Bd} {P : PL} : (Zw E lt b c ms rd m P)[52]? = some (E.2.2.2 + 52, .inl (E.1, 6400, .inl (f32 (m 21)))) := rfl
theorem zg_53 {E : ET} {lt b c ms rd m : Bd} {P : PL} : (Zw E lt b c ms rd m P)[53]? = some (E.2.2.2 + 53, .inl (E.1, 8, .inl (f32 (m 23)))) := rfl
theorem zg_54 {E : ET} {lt b c ms rd m : Bd} {P : PL} : (Zw E lt b c ms rd m P)[54]? = some (E.2.2.2 + 54, .inl (E.1, 8, .inl (f32 (m 24)))) := rfl
theorem zg_55 {E : ET} {lt b c ms rd m : Bd} {P : PL} : (Zw E lt b c ms rd m P)[55]? = some (E.2.2.2 + 55, .inl (E.1, 130, .inl (f32 (m 25)))) := rfl
theorem zg_56 {E : ET} {lt b c ms rd m : Bd} {P : PL} : (Zw E lt b c ms rd m P)[56]? = some (E.2.2.2 + 56, .inl (E.1, 130, .inl (f32 (m 27)))) := rfl
theorem zg_57 {E : ET} {lt b c ms rd m : Bd} {P : PL} : (Zw E lt b c ms rd m P)[57]? = some (E.2.2.2 + 57, .inl (E.1, 130, .inl (f32 (m 29)))) := rfl
theorem zg_58 {E : ET} {lt b c ms rd m : Bd} {P : PL} : (Zw E lt b c ms rd m P)[58]? = some (E.2.2.2 + 58, .inl (E.1, 320, .inl (f32 (m 31)))) := rfl
theorem zg_59 {E : ET} {lt b c ms rd m : Bd} {P : PL} : (Zw E lt b c ms rd m P)[59]? = some (E.2.2.2 + 59, .inl (E.1, 8, .inl (f32 (m 32)))) := rfl
theorem zg_60 {E : ET} {lt b c ms rd m : Bd} {P : PL} : (Zw E lt b c ms rd m P)[60]? = some (E.2.2.2 + 60, .inl (E.2.1, 40, .inr (.inl (f64 (m 34))))) := rfl
section Rows
variable {K : KT} {α β : Type} {Qf : α → State → Prop} {cl sl : Nat} {o o1 o2 : Option α} {pc : Nat} {lv lv' : List (Nat × Value)} {st : List Value} {ws ws' : va_W}
variable {cc : ByteArray} {own : String} {Ts : List Cond} {R0 : Room} {rt : Option FieldType} {nL : Nat}
theorem r_none : Rn K Qf cl sl (none : Option α) pc lv st ws := fun a h => by cases h
theorem r_eq (h : o = o1) (kk : Rn K Qf cl sl o1 pc lv st ws) : Rn K Qf cl sl o pc lv st ws := h ▸ kk
theorem r_ck1 {x : Int} (kk : inR x → Rn K Qf cl sl o pc lv st ws) : Rn K Qf cl sl (ck1 x o) pc lv st ws := by
  unfold ck1
  by_cases h : inR x
  · rw [if_pos h]; exact kk h
  · rw [if_neg h]; exact r_none
theorem r_ckL {x : Int} (kk : inL x → Rn K Qf cl sl o pc lv st ws) : Rn K Qf cl sl (ckL x o) pc lv st ws := by
  unfold ckL
  by_cases h : inL x
  · rw [if_pos h]; exact kk h
  · rw [if_neg h]; exact r_none
theorem r_ckA {i n : Int} (kk : 0 ≤ i ∧ i < n → Rn K Qf cl sl o pc lv st ws) : Rn K Qf cl sl (ckA i n o) pc lv st ws := by
  unfold ckA
  by_cases h : 0 ≤ i ∧ i < n
  · rw [if_pos h]; exact kk h
  · rw [if_neg h]; exact r_none
theorem r_ckB {x : Int} (kk : x = 0 ∨ x = 1 → Rn K Qf cl sl o pc lv st ws) : Rn K Qf cl sl (ckB x o) pc lv st ws := by
  unfold ckB
  by_cases h : x = 0 ∨ x = 1
  · rw [if_pos h]; exact kk h
  · rw [if_neg h]; exact r_none
theorem r_ckZ {x : Int} (kk : x ≠ 0 → Rn K Qf cl sl o pc lv st ws) : Rn K Qf cl sl (ckZ x o) pc lv st ws := by
  unfold ckZ
  by_cases h : x ≠ 0
  · rw [if_pos h]; exact kk h
  · rw [if_neg h]; exact r_none
theorem r_ckG {h : Int} {P : PL} (kk : 0 ≤ h ∧ h < (P.length : Int) → Rn K Qf cl sl o pc lv st ws) : Rn K Qf cl sl (ckG h P o) pc lv st ws := by
  unfold ckG
  by_cases q : 0 ≤ h ∧ h < (P.length : Int)
  · rw [if_pos q]; exact kk q
  · rw [if_neg q]; exact r_none
theorem r_ckN {h : Int} {P : PL} (kk : h < (P.length : Int) → Rn K Qf cl sl o pc lv st ws) : Rn K Qf cl sl (ckN h P o) pc lv st ws := by
  unfold ckN
  by_cases q : h < (P.length : Int)
  · rw [if_pos q]; exact kk q
  · rw [if_neg q]; exact r_none
theorem r_ckP {a b : Nat} (kk : a ≤ b → Rn K Qf cl sl o pc lv st ws) : Rn K Qf cl sl (ckP a b o) pc lv st ws := by
  unfold ckP
  by_cases q : a ≤ b
  · rw [if_pos q]; exact kk q
  · rw [if_neg q]; exact r_none
theorem r_sub (ks : List Nat) (hl : lv_pick lv ks = lv') (kk : Rn K Qf cl sl o pc lv' st ws) : Rn K Qf cl sl o pc lv st ws := fun a ha hd H locs ls h1 h2 h3 hh => kk a ha hd H locs ls h1 h2 h3 (lv_sub hh ks hl)
theorem r_widen {c2 s2 : Nat} (h1 : cl ≤ c2) (h2 : sl ≤ s2) (kk : Rn K Qf c2 s2 o pc lv st ws) : Rn K Qf cl sl o pc lv st ws := fun a ha hd H locs ls q1 q2 q3 hh => W.widen h1 h2 (kk a ha hd H locs ls q1 q2 q3 hh)
theorem r_ws (h : ws = ws') (kk : Rn K Qf cl sl o pc lv st ws') : Rn K Qf cl sl o pc lv st ws := h ▸ kk
theorem r_jn {γ : Type} {r : γ} {b : γ → Option α} (J : γ → Prop) (h1 : J r) (h2 : ∀ j, J j → Rn K Qf cl sl (b j) pc lv st ws) : Rn K Qf cl sl (jn r b) pc lv st ws := h2 r h1
theorem r_iconst {n : Int} (X : Kok K cc own Ts R0 rt nL) (v : Int) (hd : decode cc pc = .ok (.iconst n, 1)) (hv : Int32.ofInt n = Int32.ofInt v) (kk : Rn K Qf cl sl o (pc + 1) lv (vI v :: st) ws) : Rn K Qf cl sl o pc lv (st) ws := fun a ha hz H locs ls h1 h2 h3 hl => lv_iconst X.1 X.2.1 hd hv (kk a ha hz H locs ls h1 h2 h3 hl)
theorem r_bipush {n : Int} (X : Kok K cc own Ts R0 rt nL) (v : Int) (hd : decode cc pc = .ok (.bipush n, 2)) (hv : (Int8.ofInt n).toInt32 = Int32.ofInt v) (kk : Rn K Qf cl sl o (pc + 2) lv (vI v :: st) ws) : Rn K Qf cl sl o pc lv (st) ws := fun a ha hz H locs ls h1 h2 h3 hl => lv_bipush X.1 X.2.1 hd hv (kk a ha hz H locs ls h1 h2 h3 hl)
theorem r_sipush {n : Int} (X : Kok K cc own Ts R0 rt nL) (v : Int) (hd : decode cc pc = .ok (.sipush n, 3)) (hv : (Int16.ofInt n).toInt32 = Int32.ofInt v) (kk : Rn K Qf cl sl o (pc + 3) lv (vI v :: st) ws) : Rn K Qf cl sl o pc lv (st) ws := fun a ha hz H locs ls h1 h2 h3 hl => lv_sipush X.1 X.2.1 hd hv (kk a ha hz H locs ls h1 h2 h3 hl)
theorem r_lconst {n : Fin 2} (X : Kok K cc own Ts R0 rt nL) (v : Int) (hd : decode cc pc = .ok (.lconst n, 1)) (hv : Int64.ofNat (n : Nat) = Int64.ofInt v) (kk : Rn K Qf cl sl o (pc + 1) lv (vL v :: st) ws) : Rn K Qf cl sl o pc lv st ws := fun a ha hz H locs ls h1 h2 h3 hl => lv_lconst X.1 X.2.1 hd hv (kk a ha hz H locs ls h1 h2 h3 hl)
theorem r_ldc {idx : Nat} (X : Kok K cc own Ts R0 rt nL) (v : Int) (hw : Cond.constant own idx (Int32.ofInt v) ∈ Ts) (hd : decode cc pc = .ok (.ldc idx, 2)) (kk : Rn K Qf cl sl o (pc + 2) lv (vI v :: st) ws) : Rn K Qf cl sl o pc lv st ws := fun a ha hz H locs ls h1 h2 h3 hl => lv_ldc X.1 X.2.1 X.2.2.2.1 (X.2.2.2.2.1 _ hw) hd (kk a ha hz H locs ls h1 h2 h3 hl)
theorem r_ldc2 {idx : Nat} (X : Kok K cc own Ts R0 rt nL) (v : Int) (hw : Cond.constantLong own idx (Int64.ofInt v) ∈ Ts) (hd : decode cc pc = .ok (.ldc2_w idx, 3)) (kk : Rn K Qf cl sl o (pc + 3) lv (vL v :: st) ws) : Rn K Qf cl sl o pc lv st ws := fun a ha hz H locs ls h1 h2 h3 hl => lv_ldc2 X.1 X.2.1 X.2.2.2.1 (X.2.2.2.2.1 _ hw) hd (kk a ha hz H locs ls h1 h2 h3 hl)
theorem r_iload_n {k : Fin 4} {i : Nat} {x : Int} (X : Kok K cc own Ts R0 rt nL) (j : Nat) (hd : decode cc pc = .ok (.iload_n k, 1)) (hi : (k : Nat) = i) (hj : lv[j]? = some (i, vI x)) (kk : Rn K Qf cl sl o (pc + 1) lv (vI x :: st) ws) : Rn K Qf cl sl o pc lv st ws := fun a ha hz H locs ls h1 h2 h3 hl => lv_iload_n X.1 X.2.1 hd hi (lv_at hl j hj) (kk a ha hz H locs ls h1 h2 h3 hl)
theorem r_iload {i : Nat} {x : Int} (X : Kok K cc own Ts R0 rt nL) (j : Nat) (hd : decode cc pc = .ok (.iload i, 2)) (hj : lv[j]? = some (i, vI x)) (kk : Rn K Qf cl sl o (pc + 2) lv (vI x :: st) ws) : Rn K Qf cl sl o pc lv st ws := fun a ha hz H locs ls h1 h2 h3 hl => lv_iload X.1 X.2.1 hd (lv_at hl j hj) (kk a ha hz H locs ls h1 h2 h3 hl)
theorem r_lload_n {k : Fin 4} {i : Nat} {x : Int} (X : Kok K cc own Ts R0 rt nL) (j : Nat) (hd : decode cc pc = .ok (.lload_n k, 1)) (hi : (k : Nat) = i) (hj : lv[j]? = some (i, vL x)) (kk : Rn K Qf cl sl o (pc + 1) lv (vL x :: st) ws) : Rn K Qf cl sl o pc lv st ws := fun a ha hz H locs ls h1 h2 h3 hl => lv_lload_n X.1 X.2.1 hd hi (lv_at hl j hj) (kk a ha hz H locs ls h1 h2 h3 hl)
theorem r_lload {i : Nat} {x : Int} (X : Kok K cc own Ts R0 rt nL) (j : Nat) (hd : decode cc pc = .ok (.lload i, 2)) (hj : lv[j]? = some (i, vL x)) (kk : Rn K Qf cl sl o (pc + 2) lv (vL x :: st) ws) : Rn K Qf cl sl o pc lv st ws := fun a ha hz H locs ls h1 h2 h3 hl => lv_lload X.1 X.2.1 hd (lv_at hl j hj) (kk a ha hz H locs ls h1 h2 h3 hl)
theorem r_aload_n {k : Fin 4} {i : Nat} {x : Nat} (X : Kok K cc own Ts R0 rt nL) (j : Nat) (hd : decode cc pc = .ok (.aload_n k, 1)) (hi : (k : Nat) = i) (hj : lv[j]? = some (i, .ref x)) (kk : Rn K Qf cl sl o (pc + 1) lv (.ref x :: st) ws) : Rn K Qf cl sl o pc lv st ws := fun a ha hz H locs ls h1 h2 h3 hl => lv_aload_n X.1 X.2.1 hd hi (lv_at hl j hj) (kk a ha hz H locs ls h1 h2 h3 hl)
theorem r_aload {i : Nat} {x : Nat} (X : Kok K cc own Ts R0 rt nL) (j : Nat) (hd : decode cc pc = .ok (.aload i, 2)) (hj : lv[j]? = some (i, .ref x)) (kk : Rn K Qf cl sl o (pc + 2) lv (.ref x :: st) ws) : Rn K Qf cl sl o pc lv st ws := fun a ha hz H locs ls h1 h2 h3 hl => lv_aload X.1 X.2.1 hd (lv_at hl j hj) (kk a ha hz H locs ls h1 h2 h3 hl)
theorem r_gload_n {k : Fin 4} {i : Nat} {x : Option Nat} (X : Kok K cc own Ts R0 rt nL) (j : Nat) (hd : decode cc pc = .ok (.aload_n k, 1)) (hi : (k : Nat) = i) (hj : lv[j]? = some (i, va_rf x)) (kk : Rn K Qf cl sl o (pc + 1) lv (va_rf x :: st) ws) : Rn K Qf cl sl o pc lv st ws := by
  intro a ha hz H locs ls h1 h2 h3 hl
  cases x with
  | none => exact lv_aload_nN X.1 X.2.1 hd hi (lv_at hl j hj) (kk a ha hz H locs ls h1 h2 h3 hl)
  | some x => exact lv_aload_n X.1 X.2.1 hd hi (lv_at hl j hj) (kk a ha hz H locs ls h1 h2 h3 hl)
theorem r_gload {i : Nat} {x : Option Nat} (X : Kok K cc own Ts R0 rt nL) (j : Nat) (hd : decode cc pc = .ok (.aload i, 2)) (hj : lv[j]? = some (i, va_rf x)) (kk : Rn K Qf cl sl o (pc + 2) lv (va_rf x :: st) ws) : Rn K Qf cl sl o pc lv st ws := by
  intro a ha hz H locs ls h1 h2 h3 hl
  cases x with
  | none => exact lv_aloadN X.1 X.2.1 hd (lv_at hl j hj) (kk a ha hz H locs ls h1 h2 h3 hl)
  | some x => exact lv_aload X.1 X.2.1 hd (lv_at hl j hj) (kk a ha hz H locs ls h1 h2 h3 hl)
theorem r_istore_n {k : Fin 4} {i : Nat} {x : Int} (X : Kok K cc own Ts R0 rt nL) (ks : List Nat) (hd : decode cc pc = .ok (.istore_n k, 1)) (hi : (k : Nat) = i) (hn : i < nL) (hs : lv_pick ((i, vI x) :: lv.filter (fun q => !(q.1 == i) && !(q.1 + 1 == i && q.2.category == 2))) ks = lv') (kk : Rn K Qf cl sl o (pc + 1) lv' st ws) : Rn K Qf cl sl o pc lv (vI x :: st) ws := fun a ha hz H locs ls h1 h2 h3 hl => lv_istore_n X.1 X.2.1 hd hi hl (by rw [X.2.2.2.2.2.2.2.2.2.2.1]; exact hn) rfl (fun ls hl => lv_sub hl ks hs |> fun hl => kk a ha hz H locs ls h1 h2 h3 hl)
theorem r_istore {i : Nat} {x : Int} (X : Kok K cc own Ts R0 rt nL) (ks : List Nat) (hd : decode cc pc = .ok (.istore i, 2)) (hn : i < nL) (hs : lv_pick ((i, vI x) :: lv.filter (fun q => !(q.1 == i) && !(q.1 + 1 == i && q.2.category == 2))) ks = lv') (kk : Rn K Qf cl sl o (pc + 2) lv' st ws) : Rn K Qf cl sl o pc lv (vI x :: st) ws := fun a ha hz H locs ls h1 h2 h3 hl => lv_istore X.1 X.2.1 hd hl (by rw [X.2.2.2.2.2.2.2.2.2.2.1]; exact hn) rfl (fun ls hl => lv_sub hl ks hs |> fun hl => kk a ha hz H locs ls h1 h2 h3 hl)
theorem r_lstore_n {k : Fin 4} {i : Nat} {x : Int} (X : Kok K cc own Ts R0 rt nL) (ks : List Nat) (hd : decode cc pc = .ok (.lstore_n k, 1)) (hi : (k : Nat) = i) (hn : i + 1 < nL) (hs : lv_pick ((i, vL x) :: lv.filter (fun q => !(q.1 == i) && (!(q.1 == i + 1) && !(q.1 + 1 == i && q.2.category == 2)))) ks = lv') (kk : Rn K Qf cl sl o (pc + 1) lv' st ws) : Rn K Qf cl sl o pc lv (vL x :: st) ws := fun a ha hz H locs ls h1 h2 h3 hl => lv_lstore_n X.1 X.2.1 hd hi hl (by rw [X.2.2.2.2.2.2.2.2.2.2.1]; exact hn) rfl (fun ls hl => lv_sub hl ks hs |> fun hl => kk a ha hz H locs ls h1 h2 h3 hl)
theorem r_lstore {i : Nat} {x : Int} (X : Kok K cc own Ts R0 rt nL) (ks : List Nat) (hd : decode cc pc = .ok (.lstore i, 2)) (hn : i + 1 < nL) (hs : lv_pick ((i, vL x) :: lv.filter (fun q => !(q.1 == i) && (!(q.1 == i + 1) && !(q.1 + 1 == i && q.2.category == 2)))) ks = lv') (kk : Rn K Qf cl sl o (pc + 2) lv' st ws) : Rn K Qf cl sl o pc lv (vL x :: st) ws := fun a ha hz H locs ls h1 h2 h3 hl => lv_lstore X.1 X.2.1 hd hl (by rw [X.2.2.2.2.2.2.2.2.2.2.1]; exact hn) rfl (fun ls hl => lv_sub hl ks hs |> fun hl => kk a ha hz H locs ls h1 h2 h3 hl)
theorem r_astore_n {k : Fin 4} {i : Nat} {x : Nat} (X : Kok K cc own Ts R0 rt nL) (ks : List Nat) (hd : decode cc pc = .ok (.astore_n k, 1)) (hi : (k : Nat) = i) (hn : i < nL) (hs : lv_pick ((i, Value.ref x) :: lv.filter (fun q => !(q.1 == i) && !(q.1 + 1 == i && q.2.category == 2))) ks = lv') (kk : Rn K Qf cl sl o (pc + 1) lv' st ws) : Rn K Qf cl sl o pc lv (.ref x :: st) ws := fun a ha hz H locs ls h1 h2 h3 hl => lv_astore_n X.1 X.2.1 hd hi hl (by rw [X.2.2.2.2.2.2.2.2.2.2.1]; exact hn) rfl (fun ls hl => lv_sub hl ks hs |> fun hl => kk a ha hz H locs ls h1 h2 h3 hl)
theorem r_astore {i : Nat} {x : Nat} (X : Kok K cc own Ts R0 rt nL) (ks : List Nat) (hd : decode cc pc = .ok (.astore i, 2)) (hn : i < nL) (hs : lv_pick ((i, Value.ref x) :: lv.filter (fun q => !(q.1 == i) && !(q.1 + 1 == i && q.2.category == 2))) ks = lv') (kk : Rn K Qf cl sl o (pc + 2) lv' st ws) : Rn K Qf cl sl o pc lv (.ref x :: st) ws := fun a ha hz H locs ls h1 h2 h3 hl => lv_astore X.1 X.2.1 hd hl (by rw [X.2.2.2.2.2.2.2.2.2.2.1]; exact hn) rfl (fun ls hl => lv_sub hl ks hs |> fun hl => kk a ha hz H locs ls h1 h2 h3 hl)
theorem r_gstore_n {k : Fin 4} {i : Nat} {x : Option Nat} (X : Kok K cc own Ts R0 rt nL) (ks : List Nat) (hd : decode cc pc = .ok (.astore_n k, 1)) (hi : (k : Nat) = i) (hn : i < nL) (hs : lv_pick ((i, va_rf x) :: lv.filter (fun q => !(q.1 == i) && !(q.1 + 1 == i && q.2.category == 2))) ks = lv') (kk : Rn K Qf cl sl o (pc + 1) lv' st ws) : Rn K Qf cl sl o pc lv (va_rf x :: st) ws := by
  intro a ha hz H locs ls h1 h2 h3 hl
  have hn' : i < K.2.2.2 := by rw [X.2.2.2.2.2.2.2.2.2.2.1]; exact hn
  cases x with
  | none => exact lv_astore_nN X.1 X.2.1 hd hi hl hn' rfl (fun ls hl => lv_sub hl ks hs |> fun hl => kk a ha hz H locs ls h1 h2 h3 hl)
  | some x => exact lv_astore_n X.1 X.2.1 hd hi hl hn' rfl (fun ls hl => lv_sub hl ks hs |> fun hl => kk a ha hz H locs ls h1 h2 h3 hl)
theorem r_gstore {i : Nat} {x : Option Nat} (X : Kok K cc own Ts R0 rt nL) (ks : List Nat) (hd : decode cc pc = .ok (.astore i, 2)) (hn : i < nL) (hs : lv_pick ((i, va_rf x) :: lv.filter (fun q => !(q.1 == i) && !(q.1 + 1 == i && q.2.category == 2))) ks = lv') (kk : Rn K Qf cl sl o (pc + 2) lv' st ws) : Rn K Qf cl sl o pc lv (va_rf x :: st) ws := by
  intro a ha hz H locs ls h1 h2 h3 hl
  have hn' : i < K.2.2.2 := by rw [X.2.2.2.2.2.2.2.2.2.2.1]; exact hn
  cases x with
  | none => exact lv_astoreN X.1 X.2.1 hd hl hn' rfl (fun ls hl => lv_sub hl ks hs |> fun hl => kk a ha hz H locs ls h1 h2 h3 hl)
  | some x => exact lv_astore X.1 X.2.1 hd hl hn' rfl (fun ls hl => lv_sub hl ks hs |> fun hl => kk a ha hz H locs ls h1 h2 h3 hl)
theorem r_iinc {i : Nat} {n x : Int} (X : Kok K cc own Ts R0 rt nL) (j : Nat) (ks : List Nat) (hd : decode cc pc = .ok (.iinc i n, 3)) (hj : lv[j]? = some (i, vI x)) (hn : i < nL) (hs : lv_pick ((i, vI (x + n)) :: lv.filter (fun q => !(q.1 == i) && !(q.1 + 1 == i && q.2.category == 2))) ks = lv') (kk : Rn K Qf cl sl o (pc + 3) lv' st ws) : Rn K Qf cl sl o pc lv st ws := fun a ha hz H locs ls h1 h2 h3 hl => lv_iinc X.1 X.2.1 hd hl hj (z_iadd x n) (by rw [X.2.2.2.2.2.2.2.2.2.2.1]; exact hn) rfl (fun ls hl => lv_sub hl ks hs |> fun hl => kk a ha hz H locs ls h1 h2 h3 hl)
theorem r_iadd {x y : Int} (X : Kok K cc own Ts R0 rt nL) (hd : decode cc pc = .ok (.iadd, 1)) (kk : Rn K Qf cl sl o (pc + 1) lv (vI (x + y) :: st) ws) : Rn K Qf cl sl o pc lv (vI y :: vI x :: st) ws := fun a ha hz H locs ls h1 h2 h3 hl => lv_iadd X.1 X.2.1 hd (by rw [z_iadd]; exact kk a ha hz H locs ls h1 h2 h3 hl)
theorem r_isub {x y : Int} (X : Kok K cc own Ts R0 rt nL) (hd : decode cc pc = .ok (.isub, 1)) (kk : Rn K Qf cl sl o (pc + 1) lv (vI (x - y) :: st) ws) : Rn K Qf cl sl o pc lv (vI y :: vI x :: st) ws := fun a ha hz H locs ls h1 h2 h3 hl => lv_isub X.1 X.2.1 hd (by rw [z_isub]; exact kk a ha hz H locs ls h1 h2 h3 hl)
theorem r_imul {x y : Int} (X : Kok K cc own Ts R0 rt nL) (hd : decode cc pc = .ok (.imul, 1)) (kk : Rn K Qf cl sl o (pc + 1) lv (vI (x * y) :: st) ws) : Rn K Qf cl sl o pc lv (vI y :: vI x :: st) ws := fun a ha hz H locs ls h1 h2 h3 hl => lv_imul X.1 X.2.1 hd (by rw [z_imul]; exact kk a ha hz H locs ls h1 h2 h3 hl)
theorem r_ladd {x y : Int} (X : Kok K cc own Ts R0 rt nL) (hd : decode cc pc = .ok (.ladd, 1)) (kk : Rn K Qf cl sl o (pc + 1) lv (vL (x + y) :: st) ws) : Rn K Qf cl sl o pc lv (vL y :: vL x :: st) ws := fun a ha hz H locs ls h1 h2 h3 hl => lv_ladd X.1 X.2.1 hd (by rw [z_ladd]; exact kk a ha hz H locs ls h1 h2 h3 hl)
theorem r_lmul {x y : Int} (X : Kok K cc own Ts R0 rt nL) (hd : decode cc pc = .ok (.lmul, 1)) (kk : Rn K Qf cl sl o (pc + 1) lv (vL (x * y) :: st) ws) : Rn K Qf cl sl o pc lv (vL y :: vL x :: st) ws := fun a ha hz H locs ls h1 h2 h3 hl => lv_lmul X.1 X.2.1 hd (by rw [z_lmul]; exact kk a ha hz H locs ls h1 h2 h3 hl)
theorem r_idiv {x y : Int} (X : Kok K cc own Ts R0 rt nL) (hx : inR x) (hy : inR y) (hn : y ≠ 0) (hd : decode cc pc = .ok (.idiv, 1)) (kk : Rn K Qf cl sl o (pc + 1) lv (vI (x.tdiv y) :: st) ws) : Rn K Qf cl sl o pc lv (vI y :: vI x :: st) ws := fun a ha hz H locs ls h1 h2 h3 hl => lv_idiv X.1 X.2.1 hd (fun h => hn ((z_ieq hy (by decide)).mp h)) (by rw [z_idiv hx hy]; exact kk a ha hz H locs ls h1 h2 h3 hl)
theorem r_irem {x y : Int} (X : Kok K cc own Ts R0 rt nL) (hx : inR x) (hy : inR y) (hn : y ≠ 0) (hd : decode cc pc = .ok (.irem, 1)) (kk : Rn K Qf cl sl o (pc + 1) lv (vI (x.tmod y) :: st) ws) : Rn K Qf cl sl o pc lv (vI y :: vI x :: st) ws := fun a ha hz H locs ls h1 h2 h3 hl => lv_irem X.1 X.2.1 hd (fun h => hn ((z_ieq hy (by decide)).mp h)) (by rw [z_irem hx hy]; exact kk a ha hz H locs ls h1 h2 h3 hl)
theorem r_ldiv {x y : Int} (X : Kok K cc own Ts R0 rt nL) (hx : inL x) (hy : inL y) (hn : y ≠ 0) (hd : decode cc pc = .ok (.ldiv, 1)) (kk : Rn K Qf cl sl o (pc + 1) lv (vL (x.tdiv y) :: st) ws) : Rn K Qf cl sl o pc lv (vL y :: vL x :: st) ws := fun a ha hz H locs ls h1 h2 h3 hl => lv_ldiv X.1 X.2.1 hd (fun h => hn ((z_leq hy (by decide)).mp h)) (by rw [z_ldiv hx hy]; exact kk a ha hz H locs ls h1 h2 h3 hl)
theorem r_lrem {x y : Int} (X : Kok K cc own Ts R0 rt nL) (hx : inL x) (hy : inL y) (hn : y ≠ 0) (hd : decode cc pc = .ok (.lrem, 1)) (kk : Rn K Qf cl sl o (pc + 1) lv (vL (x.tmod y) :: st) ws) : Rn K Qf cl sl o pc lv (vL y :: vL x :: st) ws := fun a ha hz H locs ls h1 h2 h3 hl => lv_lrem X.1 X.2.1 hd (fun h => hn ((z_leq hy (by decide)).mp h)) (by rw [z_lrem hx hy]; exact kk a ha hz H locs ls h1 h2 h3 hl)
theorem r_iand {x y : Int} (X : Kok K cc own Ts R0 rt nL) (hd : decode cc pc = .ok (.iand, 1)) (kk : Rn K Qf cl sl o (pc + 1) lv (vI (i_and x y) :: st) ws) : Rn K Qf cl sl o pc lv (vI y :: vI x :: st) ws := fun a ha hz H locs ls h1 h2 h3 hl => lv_iand X.1 X.2.1 hd (by have q := kk a ha hz H locs ls h1 h2 h3 hl; rw [show vI (i_and x y) = _ from congrArg Value.int (z_oi _)] at q; exact q)
theorem r_ior {x y : Int} (X : Kok K cc own Ts R0 rt nL) (hd : decode cc pc = .ok (.ior, 1)) (kk : Rn K Qf cl sl o (pc + 1) lv (vI (i_or x y) :: st) ws) : Rn K Qf cl sl o pc lv (vI y :: vI x :: st) ws := fun a ha hz H locs ls h1 h2 h3 hl => lv_ior X.1 X.2.1 hd (by have q := kk a ha hz H locs ls h1 h2 h3 hl; rw [show vI (i_or x y) = _ from congrArg Value.int (z_oi _)] at q; exact q)
theorem r_ishl {x y : Int} (X : Kok K cc own Ts R0 rt nL) (hd : decode cc pc = .ok (.ishl, 1)) (kk : Rn K Qf cl sl o (pc + 1) lv (vI (i_shl x y) :: st) ws) : Rn K Qf cl sl o pc lv (vI y :: vI x :: st) ws := fun a ha hz H locs ls h1 h2 h3 hl => lv_ishl X.1 X.2.1 hd (by have q := kk a ha hz H locs ls h1 h2 h3 hl; rw [show vI (i_shl x y) = _ from congrArg Value.int (z_oi _)] at q; exact q)
theorem r_ishr {x y : Int} (X : Kok K cc own Ts R0 rt nL) (hd : decode cc pc = .ok (.ishr, 1)) (kk : Rn K Qf cl sl o (pc + 1) lv (vI (i_shr x y) :: st) ws) : Rn K Qf cl sl o pc lv (vI y :: vI x :: st) ws := fun a ha hz H locs ls h1 h2 h3 hl => lv_ishr X.1 X.2.1 hd (by have q := kk a ha hz H locs ls h1 h2 h3 hl; rw [show vI (i_shr x y) = _ from congrArg Value.int (z_oi _)] at q; exact q)
theorem r_land {x y : Int} (X : Kok K cc own Ts R0 rt nL) (hd : decode cc pc = .ok (.land, 1)) (kk : Rn K Qf cl sl o (pc + 1) lv (vL (l_and x y) :: st) ws) : Rn K Qf cl sl o pc lv (vL y :: vL x :: st) ws := fun a ha hz H locs ls h1 h2 h3 hl => lv_land X.1 X.2.1 hd (by have q := kk a ha hz H locs ls h1 h2 h3 hl; rw [show vL (l_and x y) = _ from congrArg Value.long (z_ol _)] at q; exact q)
theorem r_lor {x y : Int} (X : Kok K cc own Ts R0 rt nL) (hd : decode cc pc = .ok (.lor, 1)) (kk : Rn K Qf cl sl o (pc + 1) lv (vL (l_or x y) :: st) ws) : Rn K Qf cl sl o pc lv (vL y :: vL x :: st) ws := fun a ha hz H locs ls h1 h2 h3 hl => lv_lor X.1 X.2.1 hd (by have q := kk a ha hz H locs ls h1 h2 h3 hl; rw [show vL (l_or x y) = _ from congrArg Value.long (z_ol _)] at q; exact q)
theorem r_lshl {x y : Int} (X : Kok K cc own Ts R0 rt nL) (hd : decode cc pc = .ok (.lshl, 1)) (kk : Rn K Qf cl sl o (pc + 1) lv (vL (l_shl x y) :: st) ws) : Rn K Qf cl sl o pc lv (vI y :: vL x :: st) ws := fun a ha hz H locs ls h1 h2 h3 hl => lv_lshl X.1 X.2.1 hd rfl (by have q := kk a ha hz H locs ls h1 h2 h3 hl; rw [show vL (l_shl x y) = _ from congrArg Value.long (z_ol _)] at q; exact q)
theorem r_lshr {x y : Int} (X : Kok K cc own Ts R0 rt nL) (hd : decode cc pc = .ok (.lshr, 1)) (kk : Rn K Qf cl sl o (pc + 1) lv (vL (l_shr x y) :: st) ws) : Rn K Qf cl sl o pc lv (vI y :: vL x :: st) ws := fun a ha hz H locs ls h1 h2 h3 hl => lv_lshr X.1 X.2.1 hd rfl (by have q := kk a ha hz H locs ls h1 h2 h3 hl; rw [show vL (l_shr x y) = _ from congrArg Value.long (z_ol _)] at q; exact q)
theorem r_i2l {x : Int} (X : Kok K cc own Ts R0 rt nL) (hx : inR x) (hd : decode cc pc = .ok (.i2l, 1)) (kk : Rn K Qf cl sl o (pc + 1) lv (vL x :: st) ws) : Rn K Qf cl sl o pc lv (vI x :: st) ws := fun a ha hz H locs ls h1 h2 h3 hl => lv_i2l X.1 X.2.1 hd (z_i2l hx) (kk a ha hz H locs ls h1 h2 h3 hl)
theorem r_l2i {x : Int} (X : Kok K cc own Ts R0 rt nL) (hd : decode cc pc = .ok (.l2i, 1)) (kk : Rn K Qf cl sl o (pc + 1) lv (vI x :: st) ws) : Rn K Qf cl sl o pc lv (vL x :: st) ws := fun a ha hz H locs ls h1 h2 h3 hl => lv_l2i X.1 X.2.1 hd (z_l2i x) (kk a ha hz H locs ls h1 h2 h3 hl)
theorem r_lcmp {x y : Int} (X : Kok K cc own Ts R0 rt nL) (hx : inL x) (hy : inL y) (hd : decode cc pc = .ok (.lcmp, 1)) (kk : Rn K Qf cl sl o (pc + 1) lv (vI (l_cmp x y) :: st) ws) : Rn K Qf cl sl o pc lv (vL y :: vL x :: st) ws := fun a ha hz H locs ls h1 h2 h3 hl => W.lcmp X.1 X.2.1 hd (by
  have q := kk a ha hz H locs ls h1 h2 h3 hl
  have e : Int32.ofInt (l_cmp x y) = lg_cmp (Int64.ofInt x) (Int64.ofInt y) := by
    unfold l_cmp lg_cmp
    by_cases h1 : x < y
    · rw [if_pos h1, if_neg (fun h => by have := (z_llt hy hx).mp h; omega), if_neg (fun h => by have := (z_leq hx hy).mp h; omega)]; rfl
    · by_cases h2 : x = y
      · rw [if_neg h1, if_pos h2, if_neg (fun h => by have := (z_llt hy hx).mp h; omega), if_pos ((z_leq hx hy).mpr h2)]; rfl
      · rw [if_neg h1, if_neg h2, if_pos ((z_llt hy hx).mpr (by omega))]; rfl
  rw [show vI (l_cmp x y) = _ from congrArg Value.int e] at q
  exact q)
theorem r_dup {v : Value} (X : Kok K cc own Ts R0 rt nL) (hd : decode cc pc = .ok (.dup, 1)) (hc : v.category = 1) (kk : Rn K Qf cl sl o (pc + 1) lv (v :: v :: st) ws) : Rn K Qf cl sl o pc lv (v :: st) ws := fun a ha hz H locs ls h1 h2 h3 hl => lv_dup X.1 X.2.1 hd hc (kk a ha hz H locs ls h1 h2 h3 hl)
theorem r_dup2 {v u : Value} (X : Kok K cc own Ts R0 rt nL) (hd : decode cc pc = .ok (.dup2, 1)) (hc : v.category = 1) (hc2 : u.category = 1) (kk : Rn K Qf cl sl o (pc + 1) lv (v :: u :: v :: u :: st) ws) : Rn K Qf cl sl o pc lv (v :: u :: st) ws := fun a ha hz H locs ls h1 h2 h3 hl => lv_dup2_11 X.1 X.2.1 hd hc hc2 (kk a ha hz H locs ls h1 h2 h3 hl)
theorem r_pop {v : Value} (X : Kok K cc own Ts R0 rt nL) (hd : decode cc pc = .ok (.pop, 1)) (hc : v.category = 1) (kk : Rn K Qf cl sl o (pc + 1) lv (st) ws) : Rn K Qf cl sl o pc lv (v :: st) ws := fun a ha hz H locs ls h1 h2 h3 hl => lv_pop X.1 X.2.1 hd hc (kk a ha hz H locs ls h1 h2 h3 hl)
theorem r_null (X : Kok K cc own Ts R0 rt nL) (hd : decode cc pc = .ok (.aconst_null, 1)) (kk : Rn K Qf cl sl o (pc + 1) lv (.null :: st) ws) : Rn K Qf cl sl o pc lv (st) ws := fun a ha hz H locs ls h1 h2 h3 hl => lv_null X.1 X.2.1 hd (kk a ha hz H locs ls h1 h2 h3 hl)
theorem r_goto {off : Int} {tgt : Nat} (X : Kok K cc own Ts R0 rt nL) (hd : decode cc pc = .ok (.goto off, 3)) (ht : (pc : Int) + off = (tgt : Int)) (kk : Rn K Qf cl sl o tgt lv st ws) : Rn K Qf cl sl o pc lv st ws := fun a ha hz H locs ls h1 h2 h3 hl => lv_goto X.1 X.2.1 hd ht (kk a ha hz H locs ls h1 h2 h3 hl)
theorem r_icmp_eq {x y off : Int} {tgt : Nat} (X : Kok K cc own Ts R0 rt nL) (hx : inR x) (hy : inR y) (hd : decode cc pc = .ok (.if_icmp .eq off, 3)) (ht : (pc : Int) + off = (tgt : Int)) (kt : x = y → Rn K Qf cl sl o1 tgt lv st ws) (kf : ¬ x = y → Rn K Qf cl sl o2 (pc + 3) lv st ws) : Rn K Qf cl sl (if x = y then o1 else o2) pc lv (vI y :: vI x :: st) ws := by
  intro a ha hz H locs ls h1 h2 h3 hl
  by_cases h : x = y
  · rw [if_pos h] at ha
    refine lv_icmp_eq X.1 X.2.1 hd ht (fun _ => kt h a ha hz H locs ls h1 h2 h3 hl) (fun n => ?_)
    exact absurd ((z_ieq hx hy).mpr h) n
  · rw [if_neg h] at ha
    refine lv_icmp_eq X.1 X.2.1 hd ht (fun n => ?_) (fun _ => kf h a ha hz H locs ls h1 h2 h3 hl)
    exact absurd ((z_ieq hx hy).mp n) h
theorem r_icmp_ne {x y off : Int} {tgt : Nat} (X : Kok K cc own Ts R0 rt nL) (hx : inR x) (hy : inR y) (hd : decode cc pc = .ok (.if_icmp .ne off, 3)) (ht : (pc : Int) + off = (tgt : Int)) (kt : x ≠ y → Rn K Qf cl sl o1 tgt lv st ws) (kf : ¬ x ≠ y → Rn K Qf cl sl o2 (pc + 3) lv st ws) : Rn K Qf cl sl (if x ≠ y then o1 else o2) pc lv (vI y :: vI x :: st) ws := by
  intro a ha hz H locs ls h1 h2 h3 hl
  by_cases h : x ≠ y
  · rw [if_pos h] at ha
    refine lv_icmp_ne X.1 X.2.1 hd ht (fun _ => kt h a ha hz H locs ls h1 h2 h3 hl) (fun n => ?_)
    exact absurd ((z_ieq hx hy).mp n) h
  · rw [if_neg h] at ha
    refine lv_icmp_ne X.1 X.2.1 hd ht (fun n => ?_) (fun _ => kf h a ha hz H locs ls h1 h2 h3 hl)
    exact absurd ((z_ieq hx hy).mpr (Decidable.not_not.mp h)) n
theorem r_icmp_lt {x y off : Int} {tgt : Nat} (X : Kok K cc own Ts R0 rt nL) (hx : inR x) (hy : inR y) (hd : decode cc pc = .ok (.if_icmp .lt off, 3)) (ht : (pc : Int) + off = (tgt : Int)) (kt : x < y → Rn K Qf cl sl o1 tgt lv st ws) (kf : ¬ x < y → Rn K Qf cl sl o2 (pc + 3) lv st ws) : Rn K Qf cl sl (if x < y then o1 else o2) pc lv (vI y :: vI x :: st) ws := by
  intro a ha hz H locs ls h1 h2 h3 hl
  by_cases h : x < y
  · rw [if_pos h] at ha
    refine lv_icmp_lt X.1 X.2.1 hd ht (fun _ => kt h a ha hz H locs ls h1 h2 h3 hl) (fun n => ?_)
    exact absurd ((z_ilt hx hy).mpr h) n
  · rw [if_neg h] at ha
    refine lv_icmp_lt X.1 X.2.1 hd ht (fun n => ?_) (fun _ => kf h a ha hz H locs ls h1 h2 h3 hl)
    exact absurd ((z_ilt hx hy).mp n) h
theorem r_icmp_ge {x y off : Int} {tgt : Nat} (X : Kok K cc own Ts R0 rt nL) (hx : inR x) (hy : inR y) (hd : decode cc pc = .ok (.if_icmp .ge off, 3)) (ht : (pc : Int) + off = (tgt : Int)) (kt : y ≤ x → Rn K Qf cl sl o1 tgt lv st ws) (kf : ¬ y ≤ x → Rn K Qf cl sl o2 (pc + 3) lv st ws) : Rn K Qf cl sl (if y ≤ x then o1 else o2) pc lv (vI y :: vI x :: st) ws := by
  intro a ha hz H locs ls h1 h2 h3 hl
  by_cases h : y ≤ x
  · rw [if_pos h] at ha
    refine lv_icmp_ge X.1 X.2.1 hd ht (fun _ => kt h a ha hz H locs ls h1 h2 h3 hl) (fun n => ?_)
    exact absurd ((z_ile hy hx).mpr h) n
  · rw [if_neg h] at ha
    refine lv_icmp_ge X.1 X.2.1 hd ht (fun n => ?_) (fun _ => kf h a ha hz H locs ls h1 h2 h3 hl)
    exact absurd ((z_ile hy hx).mp n) h
theorem r_icmp_gt {x y off : Int} {tgt : Nat} (X : Kok K cc own Ts R0 rt nL) (hx : inR x) (hy : inR y) (hd : decode cc pc = .ok (.if_icmp .gt off, 3)) (ht : (pc : Int) + off = (tgt : Int)) (kt : y < x → Rn K Qf cl sl o1 tgt lv st ws) (kf : ¬ y < x → Rn K Qf cl sl o2 (pc + 3) lv st ws) : Rn K Qf cl sl (if y < x then o1 else o2) pc lv (vI y :: vI x :: st) ws := by
  intro a ha hz H locs ls h1 h2 h3 hl
  by_cases h : y < x
  · rw [if_pos h] at ha
    refine lv_icmp_gt X.1 X.2.1 hd ht (fun _ => kt h a ha hz H locs ls h1 h2 h3 hl) (fun n => ?_)
    exact absurd ((z_ilt hy hx).mpr h) n
  · rw [if_neg h] at ha
    refine lv_icmp_gt X.1 X.2.1 hd ht (fun n => ?_) (fun _ => kf h a ha hz H locs ls h1 h2 h3 hl)
    exact absurd ((z_ilt hy hx).mp n) h
theorem r_icmp_le {x y off : Int} {tgt : Nat} (X : Kok K cc own Ts R0 rt nL) (hx : inR x) (hy : inR y) (hd : decode cc pc = .ok (.if_icmp .le off, 3)) (ht : (pc : Int) + off = (tgt : Int)) (kt : x ≤ y → Rn K Qf cl sl o1 tgt lv st ws) (kf : ¬ x ≤ y → Rn K Qf cl sl o2 (pc + 3) lv st ws) : Rn K Qf cl sl (if x ≤ y then o1 else o2) pc lv (vI y :: vI x :: st) ws := by
  intro a ha hz H locs ls h1 h2 h3 hl
  by_cases h : x ≤ y
  · rw [if_pos h] at ha
    refine lv_icmp_le X.1 X.2.1 hd ht (fun _ => kt h a ha hz H locs ls h1 h2 h3 hl) (fun n => ?_)
    exact absurd ((z_ile hx hy).mpr h) n
  · rw [if_neg h] at ha
    refine lv_icmp_le X.1 X.2.1 hd ht (fun n => ?_) (fun _ => kf h a ha hz H locs ls h1 h2 h3 hl)
    exact absurd ((z_ile hx hy).mp n) h
theorem z_0 : inR 0 := by decide
theorem r_ifeq {x off : Int} {tgt : Nat} (X : Kok K cc own Ts R0 rt nL) (hx : inR x) (hd : decode cc pc = .ok (.ifCond .eq off, 3)) (ht : (pc : Int) + off = (tgt : Int)) (kt : x = 0 → Rn K Qf cl sl o1 tgt lv st ws) (kf : ¬ x = 0 → Rn K Qf cl sl o2 (pc + 3) lv st ws) : Rn K Qf cl sl (if x = 0 then o1 else o2) pc lv (vI x :: st) ws := by
  intro a ha hz H locs ls h1 h2 h3 hl
  by_cases h : x = 0
  · rw [if_pos h] at ha
    refine lv_if_eq X.1 X.2.1 hd ht (fun _ => kt h a ha hz H locs ls h1 h2 h3 hl) (fun n => ?_)
    exact absurd ((z_ieq hx z_0).mpr h) n
  · rw [if_neg h] at ha
    refine lv_if_eq X.1 X.2.1 hd ht (fun n => ?_) (fun _ => kf h a ha hz H locs ls h1 h2 h3 hl)
    exact absurd ((z_ieq hx z_0).mp n) h
theorem r_ifne {x off : Int} {tgt : Nat} (X : Kok K cc own Ts R0 rt nL) (hx : inR x) (hd : decode cc pc = .ok (.ifCond .ne off, 3)) (ht : (pc : Int) + off = (tgt : Int)) (kt : x ≠ 0 → Rn K Qf cl sl o1 tgt lv st ws) (kf : ¬ x ≠ 0 → Rn K Qf cl sl o2 (pc + 3) lv st ws) : Rn K Qf cl sl (if x ≠ 0 then o1 else o2) pc lv (vI x :: st) ws := by
  intro a ha hz H locs ls h1 h2 h3 hl
  by_cases h : x ≠ 0
  · rw [if_pos h] at ha
    refine lv_if_ne X.1 X.2.1 hd ht (fun _ => kt h a ha hz H locs ls h1 h2 h3 hl) (fun n => ?_)
    exact absurd ((z_ieq hx z_0).mp n) h
  · rw [if_neg h] at ha
    refine lv_if_ne X.1 X.2.1 hd ht (fun n => ?_) (fun _ => kf h a ha hz H locs ls h1 h2 h3 hl)
    exact absurd ((z_ieq hx z_0).mpr (Decidable.not_not.mp h)) n
theorem r_iflt {x off : Int} {tgt : Nat} (X : Kok K cc own Ts R0 rt nL) (hx : inR x) (hd : decode cc pc = .ok (.ifCond .lt off, 3)) (ht : (pc : Int) + off = (tgt : Int)) (kt : x < 0 → Rn K Qf cl sl o1 tgt lv st ws) (kf : ¬ x < 0 → Rn K Qf cl sl o2 (pc + 3) lv st ws) : Rn K Qf cl sl (if x < 0 then o1 else o2) pc lv (vI x :: st) ws := by
  intro a ha hz H locs ls h1 h2 h3 hl
  by_cases h : x < 0
  · rw [if_pos h] at ha
    refine lv_if_lt X.1 X.2.1 hd ht (fun _ => kt h a ha hz H locs ls h1 h2 h3 hl) (fun n => ?_)
    exact absurd ((z_ilt hx z_0).mpr h) n
  · rw [if_neg h] at ha
    refine lv_if_lt X.1 X.2.1 hd ht (fun n => ?_) (fun _ => kf h a ha hz H locs ls h1 h2 h3 hl)
    exact absurd ((z_ilt hx z_0).mp n) h
theorem r_ifge {x off : Int} {tgt : Nat} (X : Kok K cc own Ts R0 rt nL) (hx : inR x) (hd : decode cc pc = .ok (.ifCond .ge off, 3)) (ht : (pc : Int) + off = (tgt : Int)) (kt : 0 ≤ x → Rn K Qf cl sl o1 tgt lv st ws) (kf : ¬ 0 ≤ x → Rn K Qf cl sl o2 (pc + 3) lv st ws) : Rn K Qf cl sl (if 0 ≤ x then o1 else o2) pc lv (vI x :: st) ws := by
  intro a ha hz H locs ls h1 h2 h3 hl
  by_cases h : 0 ≤ x
  · rw [if_pos h] at ha
    refine lv_if_ge X.1 X.2.1 hd ht (fun _ => kt h a ha hz H locs ls h1 h2 h3 hl) (fun n => ?_)
    exact absurd ((z_ile z_0 hx).mpr h) n
  · rw [if_neg h] at ha
    refine lv_if_ge X.1 X.2.1 hd ht (fun n => ?_) (fun _ => kf h a ha hz H locs ls h1 h2 h3 hl)
    exact absurd ((z_ile z_0 hx).mp n) h
theorem r_ifgt {x off : Int} {tgt : Nat} (X : Kok K cc own Ts R0 rt nL) (hx : inR x) (hd : decode cc pc = .ok (.ifCond .gt off, 3)) (ht : (pc : Int) + off = (tgt : Int)) (kt : 0 < x → Rn K Qf cl sl o1 tgt lv st ws) (kf : ¬ 0 < x → Rn K Qf cl sl o2 (pc + 3) lv st ws) : Rn K Qf cl sl (if 0 < x then o1 else o2) pc lv (vI x :: st) ws := by
  intro a ha hz H locs ls h1 h2 h3 hl
  by_cases h : 0 < x
  · rw [if_pos h] at ha
    refine lv_if_gt X.1 X.2.1 hd ht (fun _ => kt h a ha hz H locs ls h1 h2 h3 hl) (fun n => ?_)
    exact absurd ((z_ilt z_0 hx).mpr h) n
  · rw [if_neg h] at ha
    refine lv_if_gt X.1 X.2.1 hd ht (fun n => ?_) (fun _ => kf h a ha hz H locs ls h1 h2 h3 hl)
    exact absurd ((z_ilt z_0 hx).mp n) h
theorem r_ifle {x off : Int} {tgt : Nat} (X : Kok K cc own Ts R0 rt nL) (hx : inR x) (hd : decode cc pc = .ok (.ifCond .le off, 3)) (ht : (pc : Int) + off = (tgt : Int)) (kt : x ≤ 0 → Rn K Qf cl sl o1 tgt lv st ws) (kf : ¬ x ≤ 0 → Rn K Qf cl sl o2 (pc + 3) lv st ws) : Rn K Qf cl sl (if x ≤ 0 then o1 else o2) pc lv (vI x :: st) ws := by
  intro a ha hz H locs ls h1 h2 h3 hl
  by_cases h : x ≤ 0
  · rw [if_pos h] at ha
    refine lv_if_le X.1 X.2.1 hd ht (fun _ => kt h a ha hz H locs ls h1 h2 h3 hl) (fun n => ?_)
    exact absurd ((z_ile hx z_0).mpr h) n
  · rw [if_neg h] at ha
    refine lv_if_le X.1 X.2.1 hd ht (fun n => ?_) (fun _ => kf h a ha hz H locs ls h1 h2 h3 hl)
    exact absurd ((z_ile hx z_0).mp n) h
theorem r_ifnull {B : Nat} {x off : Int} {tgt : Nat} (X : Kok K cc own Ts R0 rt nL) (hd : decode cc pc = .ok (.ifnull off, 3)) (ht : (pc : Int) + off = (tgt : Int)) (kt : x < 0 → Rn K Qf cl sl o1 tgt lv st ws) (kf : ¬ x < 0 → Rn K Qf cl sl o2 (pc + 3) lv st ws) : Rn K Qf cl sl (if x < 0 then o1 else o2) pc lv (vG B x :: st) ws := by
  intro a ha hz H locs ls h1 h2 h3 hl
  by_cases h : x < 0
  · rw [if_pos h] at ha
    rw [show vG B x = .null by unfold vG gA; rw [if_pos h]; rfl]
    exact lv_ifnullN X.1 X.2.1 hd ht (kt h a ha hz H locs ls h1 h2 h3 hl)
  · rw [if_neg h] at ha
    rw [show vG B x = .ref (B + 62 + 2 * x.toNat) from z_rf (by omega)]
    exact lv_ifnull X.1 X.2.1 hd (kf h a ha hz H locs ls h1 h2 h3 hl)
theorem r_ifnonnull {B : Nat} {x off : Int} {tgt : Nat} (X : Kok K cc own Ts R0 rt nL) (hd : decode cc pc = .ok (.ifnonnull off, 3)) (ht : (pc : Int) + off = (tgt : Int)) (kt : x < 0 → Rn K Qf cl sl o1 (pc + 3) lv st ws) (kf : ¬ x < 0 → Rn K Qf cl sl o2 tgt lv st ws) : Rn K Qf cl sl (if x < 0 then o1 else o2) pc lv (vG B x :: st) ws := by
  intro a ha hz H locs ls h1 h2 h3 hl
  by_cases h : x < 0
  · rw [if_pos h] at ha
    rw [show vG B x = .null by unfold vG gA; rw [if_pos h]; rfl]
    exact lv_ifnonnullN X.1 X.2.1 hd (kt h a ha hz H locs ls h1 h2 h3 hl)
  · rw [if_neg h] at ha
    rw [show vG B x = .ref (B + 62 + 2 * x.toNat) from z_rf (by omega)]
    exact lv_ifnonnull X.1 X.2.1 hd ht (kf h a ha hz H locs ls h1 h2 h3 hl)
theorem r_tableIn {dflt lo hi : Int} {offs : Array Int} {len : Nat} {x off : Int} {tgt : Nat} (X : Kok K cc own Ts R0 rt nL) (v : Int) (h : x = v) (hr : inR v) (hd : decode cc pc = .ok (.tableswitch dflt lo hi offs, len)) (h4 : lo ≤ v ∧ v ≤ hi) (ho : offs[(v - lo).toNat]? = some off) (ht : (pc : Int) + off = (tgt : Int)) (kk : Rn K Qf cl sl o tgt lv st ws) : Rn K Qf cl sl o pc lv (vI x :: st) ws := by
  subst h
  intro a ha hz H locs ls h1 h2 h3 hl
  exact lv_tableIn X.1 X.2.1 hd (by rw [z_i hr]; omega) (by rw [z_i hr]; omega) (by rw [z_i hr]; exact ho) ht (kk a ha hz H locs ls h1 h2 h3 hl)
theorem r_tableOut {dflt lo hi : Int} {offs : Array Int} {len : Nat} {x : Int} {tgt : Nat} (X : Kok K cc own Ts R0 rt nL) (hr : inR x) (hd : decode cc pc = .ok (.tableswitch dflt lo hi offs, len)) (h : x < lo ∨ hi < x) (ht : (pc : Int) + dflt = (tgt : Int)) (kk : Rn K Qf cl sl o tgt lv st ws) : Rn K Qf cl sl o pc lv (vI x :: st) ws := by
  intro a ha hz H locs ls h1 h2 h3 hl
  exact lv_tableOut X.1 X.2.1 hd (by rw [z_i hr]; exact h) ht (kk a ha hz H locs ls h1 h2 h3 hl)
theorem r_lookup {dflt : Int} {ps : Array (Int × Int)} {len : Nat} {x off : Int} {tgt : Nat} (X : Kok K cc own Ts R0 rt nL) (hr : inR x) (hd : decode cc pc = .ok (.lookupswitch dflt ps, len)) (hp : (ps.toList.zip (ps.toList.drop 1)).all (fun (a, next) => a.1 < next.1) = true) (ho : Op.lookupswitch.offset ps.toList dflt x = off) (ht : (pc : Int) + off = (tgt : Int)) (kk : Rn K Qf cl sl o tgt lv st ws) : Rn K Qf cl sl o pc lv (vI x :: st) ws := by
  intro a ha hz H locs ls h1 h2 h3 hl
  exact lv_lookup X.1 X.2.1 hd hp (by rw [z_i hr]; exact ho) ht (kk a ha hz H locs ls h1 h2 h3 hl)
theorem r_get {idx b ci : Nat} {C : String} {T : u_T} {N : Nat} {fs : List Value} {v : Value} (X : Kok K cc own Ts R0 rt nL) (q0 k : Nat) (hin : ∀ w ∈ u_ws C T N, w ∈ Ts) (he : ws[q0]? = some (b, .inr (ci, fs))) (hc : vwCl[ci]? = some (C, T, N)) (hk : k < N) (hlink : Cond.fieldLink own idx (T k).1 (T k).2.1 (T k).2.2.1 ∈ Ts) (hv : fs[k]? = some v) (hd : decode cc pc = .ok (.getfield idx, 3)) (kk : Rn K Qf cl sl o (pc + 3) lv (v :: st) ws) : Rn K Qf cl sl o pc lv (.ref b :: st) ws := fun a ha hz H locs ls h1 h2 h3 hl => va_get X.1 X.2.1 X.2.2.2.2.1 hin X.2.2.2.1 X.2.2.2.2.2.1 h2 q0 he hc k hk (X.2.2.2.2.1 _ hlink) (fun x hx => hx) hv hd (kk a ha hz H locs ls h1 h2 h3 hl)
theorem r_put {idx b ci : Nat} {C : String} {T : u_T} {N : Nat} {fs : List Value} {v : Value} {ty : FieldType} (X : Kok K cc own Ts R0 rt nL) (q0 k : Nat) (hin : ∀ w ∈ u_ws C T N, w ∈ Ts) (ty0 : Nat → FieldType) (hty : ∀ k, k < N → parseFieldDescriptor (T k).2.2.1 = some (ty0 k)) (hnm : ∀ a, a < N → ∀ b, b < N → a ≠ b → (T a).2.1 ≠ (T b).2.1) (he : ws[q0]? = some (b, .inr (ci, fs))) (hc : vwCl[ci]? = some (C, T, N)) (hk : k < N) (hlink : Cond.fieldLink own idx (T k).1 (T k).2.1 (T k).2.2.1 ∈ Ts) (hfin : (T k).2.2.2 = false) (hd2 : parseFieldDescriptor (T k).2.2.1 = some ty) (hn : narrow ty v = v) (hfit : fits ty v = true) (hl0 : k < fs.length) (hw : ws.set q0 (b, .inr (ci, fs.set k v)) = ws') (hd : decode cc pc = .ok (.putfield idx, 3)) (kk : Rn K Qf cl sl o (pc + 3) lv st ws') : Rn K Qf cl sl o pc lv (v :: .ref b :: st) ws := by
  subst hw
  intro a ha hz H locs ls h1 hP hS0 hl
  have hK := X.2.2.2.2.2.1
  have hts := X.2.2.2.2.1
  have hown := X.2.2.2.1
  have hD := hz.D
  have hap := va_apart (own := own) hts hin ty0 hty hnm hK hc
  obtain ⟨r, g1, cell, q1, q2, q3, q4⟩ := hP q0 _ he
  have hr : r = (C, T, N) := Option.some.inj (g1.symm.trans hc)
  subst hr
  obtain ⟨hS, hfc, kC, hkC, hkind⟩ := hK.1 ci _ hc
  obtain ⟨cf, kf, fi, f, hi, hsl⟩ := hS k hk
  have hlay := hts _ (hin _ (u_in_lay hk))
  unfold u_lay at hlay
  rw [if_neg (by rw [hfin]; decide)] at hlay
  have hst := (u_facts hfc hkC (u_lays hts hin hk) hi).1
  have h6 := u_store hfc hkC hkind hlay hi hd2 hn hfit
  refine W.putK X.1 X.2.1 (f := f) ⟨hown, hts _ hlink, ⟨_, _, _, hi⟩, hst⟩ (by rw [q2]; exact h6) q1 q3 (by rw [hsl]; exact k2_hasslot (q4 k hk)) rfl rfl hd fun H' e1 e2 e3 => ?_
  rw [hsl] at e1 ⊢
  exact kk a ha (hz.set he) H' _ ls (by rw [List.length_set, ← h1]; exact e2) (hP.set hD he ⟨_, hc, t_OB.to (V := updV (vp_V fs) k v) ⟨_, e1, q2, q3, t_set q4 hap hk v⟩ (fun j _ => vp_updV_set hl0 v j)⟩ e3) (hS0.put e2 e3 (hD.2 q0 _ he)) hl
theorem r_iald {b n : Nat} {i : Int} {f : Int → Int} (X : Kok K cc own Ts R0 rt nL) (q0 : Nat) {ni : Int} (hi : 0 ≤ i ∧ i < ni) (hn : n ≤ 2147483647 ∧ (n : Int) = ni) (he : ws[q0]? = some (b, .inl ((kE K).1, n, .inl (f32 f)))) (hd : decode cc pc = .ok (.iaload, 1)) (kk : Rn K Qf cl sl o (pc + 1) lv (vI (f i) :: st) ws) : Rn K Qf cl sl o pc lv (vI i :: .ref b :: st) ws := fun a ha hz H locs ls h1 h2 h3 hl => va_iald X.1 X.2.1 X.2.2.2.2.2.1 h2 q0 0 he rfl (z_in (n := n) hi.1 (by omega) hn.1) hd (by
  have q := kk a ha hz H locs ls h1 h2 h3 hl
  rw [z_clamp hi.1 (by omega)]
  show W _ _ _ _ _ _ _ _ _ _ _ _ _ _ _ (F0 _ _ _ (.int (Int32.ofInt (f (i.toNat : Int))) :: st))
  rw [Int.toNat_of_nonneg hi.1]
  exact q)
theorem r_lald {b n : Nat} {i : Int} {f : Int → Int} (X : Kok K cc own Ts R0 rt nL) (q0 : Nat) {ni : Int} (hi : 0 ≤ i ∧ i < ni) (hn : n ≤ 2147483647 ∧ (n : Int) = ni) (he : ws[q0]? = some (b, .inl ((kE K).2.1, n, .inr (.inl (f64 f))))) (hd : decode cc pc = .ok (.laload, 1)) (kk : Rn K Qf cl sl o (pc + 1) lv (vL (f i) :: st) ws) : Rn K Qf cl sl o pc lv (vI i :: .ref b :: st) ws := fun a ha hz H locs ls h1 h2 h3 hl => va_lald X.1 X.2.1 X.2.2.2.2.2.1 h2 q0 1 he rfl (z_in (n := n) hi.1 (by omega) hn.1) hd (by
  have q := kk a ha hz H locs ls h1 h2 h3 hl
  rw [z_clamp hi.1 (by omega)]
  show W _ _ _ _ _ _ _ _ _ _ _ _ _ _ _ (F0 _ _ _ (.long (Int64.ofInt (f (i.toNat : Int))) :: st))
  rw [Int.toNat_of_nonneg hi.1]
  exact q)
theorem r_aald {b n : Nat} {i : Int} {f : Int → Int} (X : Kok K cc own Ts R0 rt nL) (q0 : Nat) {ni : Int} (hi : 0 ≤ i ∧ i < ni) (hn : n ≤ 2147483647 ∧ (n : Int) = ni) (he : ws[q0]? = some (b, .inl ((kE K).2.2.1, n, .inr (.inr (.inr (.inr (fGr (kB K) f))))))) (hd : decode cc pc = .ok (.aaload, 1)) (kk : Rn K Qf cl sl o (pc + 1) lv (vG (kB K) (f i) :: st) ws) : Rn K Qf cl sl o pc lv (vI i :: .ref b :: st) ws := fun a ha hz H locs ls h1 h2 h3 hl => va_aldq X.1 X.2.1 X.2.2.2.2.2.1 h2 q0 2 he rfl (z_in (n := n) hi.1 (by omega) hn.1) hd (by
  have q := kk a ha hz H locs ls h1 h2 h3 hl
  rw [z_clamp hi.1 (by omega)]
  show W _ _ _ _ _ _ _ _ _ _ _ _ _ _ _ (F0 _ _ _ (va_rf (gA (kB K) (f (i.toNat : Int))) :: st))
  rw [Int.toNat_of_nonneg hi.1]
  exact q)
theorem r_iast {b n : Nat} {i v : Int} {f : Int → Int} (X : Kok K cc own Ts R0 rt nL) (q0 : Nat) {ni : Int} (hi : 0 ≤ i ∧ i < ni) (hn : n ≤ 2147483647 ∧ (n : Int) = ni) (he : ws[q0]? = some (b, .inl ((kE K).1, n, .inl (f32 f)))) (hw : ws.set q0 (b, .inl ((kE K).1, n, .inl (f32 (aS f i v)))) = ws') (hd : decode cc pc = .ok (.iastore, 1)) (kk : Rn K Qf cl sl o (pc + 1) lv st ws') : Rn K Qf cl sl o pc lv (vI v :: vI i :: .ref b :: st) ws := by
  subst hw
  intro a ha hz H locs ls h1 hP hS hl
  have hD := hz.D
  refine W.iast X.1 X.2.1 (hP q0 _ he) ((X.2.2.2.2.2.1.2 0 _ rfl).1 n (fun j => .int (f32 f j))) (fun q => by cases q) (by show ¬ (Int32.ofInt i < 0 ∨ (arrV _ _ _).slots.size ≤ _); rw [arrV_size]; exact z_in (n := n) hi.1 (by omega) hn.1) rfl rfl hd fun H1 e z oq => ?_
  refine kk a ha (hz.set he) H1 _ ls (by rw [List.length_set, ← h1]; exact z) (hP.set hD he ?_ oq) (hS.put z oq (hD.2 q0 _ he)) hl
  show H1[b]? = some (vp_cell _ _)
  rw [e, vp_cell_i, vp_cell_i, arrV_store, ← f32_set f hi.1 v, z_clamp hi.1 (by omega)]
  congr 2
  funext q
  by_cases hq : q = i.toNat
  · subst hq
    simp [updV, upd]
  · simp [updV, upd, hq]
theorem r_last {b n : Nat} {i v : Int} {f : Int → Int} (X : Kok K cc own Ts R0 rt nL) (q0 : Nat) {ni : Int} (hi : 0 ≤ i ∧ i < ni) (hn : n ≤ 2147483647 ∧ (n : Int) = ni) (he : ws[q0]? = some (b, .inl ((kE K).2.1, n, .inr (.inl (f64 f))))) (hw : ws.set q0 (b, .inl ((kE K).2.1, n, .inr (.inl (f64 (aS f i v))))) = ws') (hd : decode cc pc = .ok (.lastore, 1)) (kk : Rn K Qf cl sl o (pc + 1) lv st ws') : Rn K Qf cl sl o pc lv (vL v :: vI i :: .ref b :: st) ws := by
  subst hw
  intro a ha hz H locs ls h1 hP hS hl
  have hD := hz.D
  refine W.last X.1 X.2.1 (hP q0 _ he) ((X.2.2.2.2.2.1.2 1 _ rfl).1 n (fun j => .long (f64 f j))) (fun q => by cases q) (by show ¬ (Int32.ofInt i < 0 ∨ (arrV _ _ _).slots.size ≤ _); rw [arrV_size]; exact z_in (n := n) hi.1 (by omega) hn.1) rfl rfl hd fun H1 e z oq => ?_
  refine kk a ha (hz.set he) H1 _ ls (by rw [List.length_set, ← h1]; exact z) (hP.set hD he ?_ oq) (hS.put z oq (hD.2 q0 _ he)) hl
  show H1[b]? = some (vp_cell _ _)
  rw [e, vp_cell_l, vp_cell_l, arrV_store, ← f64_set f hi.1 v, z_clamp hi.1 (by omega)]
  congr 2
  funext q
  by_cases hq : q = i.toNat
  · subst hq
    simp [updV, vp_updL]
  · simp [updV, vp_updL, hq]
theorem r_aastN {b n : Nat} {i : Int} {f : Int → Int} (X : Kok K cc own Ts R0 rt nL) (q0 : Nat) {ni : Int} (hi : 0 ≤ i ∧ i < ni) (hn : n ≤ 2147483647 ∧ (n : Int) = ni) (v : Int) (hv0 : v < 0) (he : ws[q0]? = some (b, .inl ((kE K).2.2.1, n, .inr (.inr (.inr (.inr (fGr (kB K) f))))))) (hw : ws.set q0 (b, .inl ((kE K).2.2.1, n, .inr (.inr (.inr (.inr (fGr (kB K) (aS f i v))))))) = ws') (hd : decode cc pc = .ok (.aastore, 1)) (kk : Rn K Qf cl sl o (pc + 1) lv st ws') : Rn K Qf cl sl o pc lv (.null :: vI i :: .ref b :: st) ws := by
  subst hw
  intro a ha hz H locs ls h1 hP hS hl
  have hD := hz.D
  refine va_WaastN (C := "LoopTypes$Graph") X.1 X.2.1 (hP q0 _ he) ((X.2.2.2.2.2.1.2 2 _ rfl).1 n (fun j => va_rf (fGr (kB K) f j))) (fun h => by cases h) (by show ¬ (Int32.ofInt i < 0 ∨ (arrV _ _ _).slots.size ≤ _); rw [arrV_size]; exact z_in (n := n) hi.1 (by omega) hn.1) rfl rfl hd fun H1 e z oq => ?_
  refine kk a ha (hz.set he) H1 _ ls (by rw [List.length_set, ← h1]; exact z) (hP.set hD he ?_ oq) (hS.put z oq (hD.2 q0 _ he)) hl
  show H1[b]? = some (vp_cell _ _)
  rw [e, vp_cell_q, vp_cell_q, arrV_store, ← fGr_set (kB K) f hi.1 v, z_clamp hi.1 (by omega)]
  congr 2
  funext q
  have e0 : gA (kB K) v = none := if_pos hv0
  by_cases hq : q = i.toNat
  · subst hq
    simp [updV, va_up, va_rf, e0]
  · simp [updV, va_up, hq]
theorem r_aastS {b n g : Nat} {i : Int} {f : Int → Int} {vs : List Value} (X : Kok K cc own Ts R0 rt nL) (q0 qk : Nat) {ni : Int} (hi : 0 ≤ i ∧ i < ni) (hn : n ≤ 2147483647 ∧ (n : Int) = ni) (v : Int) (hv0 : gA (kB K) v = some g) (he : ws[q0]? = some (b, .inl ((kE K).2.2.1, n, .inr (.inr (.inr (.inr (fGr (kB K) f))))))) (hvk : ws[qk]? = some (g, .inr (2, vs))) (hw : ws.set q0 (b, .inl ((kE K).2.2.1, n, .inr (.inr (.inr (.inr (fGr (kB K) (aS f i v))))))) = ws') (hd : decode cc pc = .ok (.aastore, 1)) (kk : Rn K Qf cl sl o (pc + 1) lv st ws') : Rn K Qf cl sl o pc lv (.ref g :: vI i :: .ref b :: st) ws := by
  subst hw
  intro a ha hz H locs ls h1 hP hS hl
  have hD := hz.D
  have hK := X.2.2.2.2.2.1
  obtain ⟨r', hr', cellV, g1, g2, g3, -⟩ := hP qk _ hvk
  have hcls := (hK.1 2 _ rfl).2
  obtain ⟨kA, comp, k1, k2, k3, -⟩ := (hK.2 2 _ rfl).2
  have hcomp : comp = K.2.2.1.1.1 2 := Option.some.inj (k3.symm.trans hcls.1)
  subst hcomp
  obtain ⟨kC, hkC, -⟩ := hcls.2
  refine W.aast X.1 X.2.1 (hP q0 _ he) (fun q h => by cases h) (fun h => by cases h) k1 k2 rfl hkC ⟨fun q => (z_in (n := n) hi.1 (by omega) hn.1) (Or.inl q), by show _ < (arrV _ _ _).slots.size; rw [arrV_size]; exact Nat.not_le.mp fun q => (z_in (n := n) hi.1 (by omega) hn.1) (Or.inr q)⟩ g1 (fun q h => by rw [g3] at h; cases h) (by rw [g2]; exact hkC) (by rw [g2]; exact va_assign hcls) rfl rfl hd fun H1 e z oq => ?_
  refine kk a ha (hz.set he) H1 _ ls (by rw [List.length_set, ← h1]; exact z) (hP.set hD he ?_ oq) (hS.put z oq (hD.2 q0 _ he)) hl
  show H1[b]? = some (vp_cell _ _)
  rw [e, vp_cell_q, vp_cell_q, arrV_store, ← fGr_set (kB K) f hi.1 v, z_clamp hi.1 (by omega), hv0]
  congr 2
  funext q
  by_cases hq : q = i.toNat
  · subst hq
    simp [updV, va_up, va_rf]
  · simp [updV, va_up, hq]
theorem r_alen {b : Nat} {cA : ClassId} {x : vp_A} {ty : FieldType} (X : Kok K cc own Ts R0 rt nL) (q0 t0 : Nat) (v : Int) (he : ws[q0]? = some (b, .inl (cA, x))) (ht : (Zt (kE K))[t0]? = some (cA, ty)) (hv : Int32.ofNat x.1 = Int32.ofInt v) (hd : decode cc pc = .ok (.arraylength, 1)) (kk : Rn K Qf cl sl o (pc + 1) lv (vI v :: st) ws) : Rn K Qf cl sl o pc lv (.ref b :: st) ws := fun a ha hz H locs ls h1 h2 h3 hl => va_alen X.1 X.2.1 X.2.2.2.2.2.1 h2 q0 t0 he ht hv hd (kk a ha hz H locs ls h1 h2 h3 hl)
theorem r_ialdG {b : Nat} {i z : Int} {f : Int → Int} (X : Kok K cc own Ts R0 rt nL) (q0 : Nat) (hi : 0 ≤ i ∧ i < z) (hr : inR i) (he : ws[q0]? = some (b, .inl ((kE K).1, z.toNat, .inl (f32 f)))) (hd : decode cc pc = .ok (.iaload, 1)) (kk : Rn K Qf cl sl o (pc + 1) lv (vI (f i) :: st) ws) : Rn K Qf cl sl o pc lv (vI i :: .ref b :: st) ws := fun a ha hz H locs ls h1 h2 h3 hl => va_iald X.1 X.2.1 X.2.2.2.2.2.1 h2 q0 0 he rfl (by rw [vp_in_iff, z_i hr]; exact ⟨hi.1, by omega⟩) hd (by
  have q := kk a ha hz H locs ls h1 h2 h3 hl
  rw [z_clamp hi.1 (by have := hr.2; omega)]
  show W _ _ _ _ _ _ _ _ _ _ _ _ _ _ _ (F0 _ _ _ (.int (Int32.ofInt (f (i.toNat : Int))) :: st))
  rw [Int.toNat_of_nonneg hi.1]
  exact q)
theorem r_alenG {b : Nat} {z : Int} {f : Int → Int} (X : Kok K cc own Ts R0 rt nL) (q0 : Nat) (h0 : 0 ≤ z) (he : ws[q0]? = some (b, .inl ((kE K).1, z.toNat, .inl (f32 f)))) (hd : decode cc pc = .ok (.arraylength, 1)) (kk : Rn K Qf cl sl o (pc + 1) lv (vI z :: st) ws) : Rn K Qf cl sl o pc lv (.ref b :: st) ws := r_alen X q0 0 z he rfl (by show Int32.ofNat z.toNat = Int32.ofInt z; rw [← Int32.ofInt_eq_ofNat]; congr 1; omega) hd kk
theorem r_case {x v : Int} (kt : x = v → Rn K Qf cl sl o1 pc lv st ws) (kf : ¬ x = v → Rn K Qf cl sl o2 pc lv st ws) : Rn K Qf cl sl (if x = v then o1 else o2) pc lv st ws := by
  by_cases h : x = v
  · rw [if_pos h]; exact kt h
  · rw [if_neg h]; exact kf h
theorem r_st {st' : List Value} (h : st = st') (kk : Rn K Qf cl sl o pc lv st' ws) : Rn K Qf cl sl o pc lv st ws := h ▸ kk
theorem r_rf0 {B : Nat} {h : Int} (hh : 0 ≤ h) (kk : Rn K Qf cl sl o pc lv (.ref (B + 62 + 2 * h.toNat) :: st) ws) : Rn K Qf cl sl o pc lv (vG B h :: st) ws := r_st (by rw [z_rf hh]) kk
theorem r_rf1 {B : Nat} {h : Int} {v1 : Value} (hh : 0 ≤ h) (kk : Rn K Qf cl sl o pc lv (v1 :: .ref (B + 62 + 2 * h.toNat) :: st) ws) : Rn K Qf cl sl o pc lv (v1 :: vG B h :: st) ws := r_st (by rw [z_rf hh]) kk
theorem r_rf2 {B : Nat} {h : Int} {v1 v2 : Value} (hh : 0 ≤ h) (kk : Rn K Qf cl sl o pc lv (v1 :: v2 :: .ref (B + 62 + 2 * h.toNat) :: st) ws) : Rn K Qf cl sl o pc lv (v1 :: v2 :: vG B h :: st) ws := r_st (by rw [z_rf hh]) kk
theorem r_gnull {B : Nat} (X : Kok K cc own Ts R0 rt nL) (hd : decode cc pc = .ok (.aconst_null, 1)) (kk : Rn K Qf cl sl o (pc + 1) lv (vG B (-1) :: st) ws) : Rn K Qf cl sl o pc lv st ws := r_null X hd kk
theorem r_aastG {b n : Nat} {i h : Int} {f : Int → Int} {lt b1 c ms rd m : Bd} {P : PL} (X : Kok K cc own Ts R0 rt nL) (q0 : Nat) {ni : Int} (hi : 0 ≤ i ∧ i < ni) (hn : n ≤ 2147483647 ∧ (n : Int) = ni) (hh : h < (P.length : Int)) (he : (Zw (kE K) lt b1 c ms rd m P)[q0]? = some (b, .inl ((kE K).2.2.1, n, .inr (.inr (.inr (.inr (fGr (kB K) f))))))) (hw : (Zw (kE K) lt b1 c ms rd m P).set q0 (b, .inl ((kE K).2.2.1, n, .inr (.inr (.inr (.inr (fGr (kB K) (aS f i h))))))) = ws') (hd : decode cc pc = .ok (.aastore, 1)) (kk : Rn K Qf cl sl o (pc + 1) lv st ws') : Rn K Qf cl sl o pc lv (vG (kB K) h :: vI i :: .ref b :: st) (Zw (kE K) lt b1 c ms rd m P) := by
  by_cases h0 : h < 0
  · have e : vG (kB K) h = .null := by unfold vG gA; rw [if_pos h0]; rfl
    rw [e]
    exact r_aastN X q0 hi hn h h0 he hw hd kk
  · have e : vG (kB K) h = .ref (kB K + 62 + 2 * h.toNat) := z_rf (by omega)
    rw [e]
    exact r_aastS X q0 (62 + 2 * h.toNat) hi hn h (by unfold gA; rw [if_neg h0]) he (zg_gobj ⟨by omega, hh⟩) hw hd kk
end Rows
/-! contracts, ends, calls -/
def Qo (D : va_G) (B : Nat) (W' : va_W) (r : Option Value) : Array Value → State → Outcome → State → Prop := fun _ st oc t => oc = .returned r ∧ st.heap.size ≤ t.heap.size ∧ t.heap.size = B + W'.length ∧ va_P D vwCl W' t.heap ∧ ∀ q : Nat, q < B → t.heap[q]? = st.heap[q]?
def Po (D : va_G) (E : ET) (W0 : va_W) : State → Prop := fun U => U.heap.size = E.2.2.2 + W0.length ∧ va_P D vwCl W0 U.heap ∧ va_K D vwCl (Zt E) U ∧ Znw U
def Ct (l : Launch) (y : MethodName) (ws : List Cond) (rm : Room) (D : va_G) (E : ET) (av : List Value) (W0 W' : va_W) (r : Option Value) : Prop :=
  Met l y ws rm (va_Pc av (Po D E W0)) (Qo D E.2.2.2 W' r) rm.cells rm.slots (fun q => E.2.2.2 ≤ q)
def Qm (K : KT) (rm : Room) {α : Type} (W' : α → va_W) (rv : α → Option Value) : α → State → Prop := fun a => MQ K.2.1.2.2.1 (Qo K.2.2.1.1 (kB K) (W' a) (rv a)) K.2.1.2.1 (kS K) rm.cells rm.slots (fun q => kB K ≤ q)
theorem Po.blind {D : va_G} {E : ET} {W0 : va_W} {av : List Value} : FrameBlind (va_Pc av (Po D E W0)) := fun a U g mk q => ⟨q.1, q.2.1, q.2.2.1, va_K.moved (u := U) (U := U.calling g mk a) (Vm.Alike.refl U.vm) q.2.2.2.1, Znw.same rfl q.2.2.2.2⟩
section Ends
variable {K : KT} {α β : Type} {Qf : α → State → Prop} {cl sl : Nat} {o : Option α} {pc : Nat} {lv : List (Nat × Value)} {st rest : List Value} {ws : va_W}
variable {cc : ByteArray} {own : String} {Ts : List Cond} {R0 : Room} {rt : Option FieldType} {nL : Nat}
theorem z_Qo (X : Kok K cc own Ts R0 rt nL) {H : Heap} {locs : List Loc} {oc : Outcome} {r : Option Value} {t : State} {aa : Array Value} (e : oc = .returned r) (ht : t.heap = H) (h1 : H.size = kB K + ws.length) (h2 : va_P K.2.2.1.1 vwCl ws H) (h3 : va_S (fun q => kB K ≤ q) (kS K).heap H locs) : Qo K.2.2.1.1 (kB K) ws r aa (kS K) oc t := by
  subst ht
  refine ⟨e, h3.1, h1, h2, fun q hq => h3.2.1 q (Nat.lt_of_lt_of_le hq X.2.2.2.2.2.2.2.2.2.2.2) (Nat.not_le.mpr hq)⟩
theorem r_iret {a : α} {z : Int} {rm : Room} {W' : α → va_W} {rv : α → Option Value} (X : Kok K cc own Ts R0 (some .int) nL) (e1 : rv a = some (vI z)) (e2 : W' a = ws) (hc : cl ≤ rm.cells ∧ sl ≤ rm.slots) (hd : decode cc pc = .ok (.ireturn, 1)) : Rn K (Qm K rm W' rv) cl sl (some a) pc lv [vI z] ws := by
  intro a' ha hz H locs ls h1 h2 h3 hl
  cases ha
  refine W.widen hc.1 hc.2 ?_
  unfold Qm
  rw [e1, e2]
  exact W.iret X.1 X.2.1 X.2.2.2.2.2.2.2.2.2.1 (fun t ht _ => z_Qo X rfl ht h1 h2 h3) (fun q hq => h3.2.2 q hq) hd X.2.2.2.2.2.2.2.1
theorem r_zret {a : α} {z : Int} {rm : Room} {W' : α → va_W} {rv : α → Option Value} (X : Kok K cc own Ts R0 (some .boolean) nL) (hz01 : z = 0 ∨ z = 1) (e1 : rv a = some (vI z)) (e2 : W' a = ws) (hc : cl ≤ rm.cells ∧ sl ≤ rm.slots) (hd : decode cc pc = .ok (.ireturn, 1)) : Rn K (Qm K rm W' rv) cl sl (some a) pc lv [vI z] ws := by
  intro a' ha hz H locs ls h1 h2 h3 hl
  cases ha
  refine W.widen hc.1 hc.2 ?_
  unfold Qm
  rw [e1, e2]
  exact W.zret X.1 X.2.1 X.2.2.2.2.2.2.2.2.2.1 (by rcases hz01 with rfl | rfl <;> decide) (fun t ht _ => z_Qo X rfl ht h1 h2 h3) (fun q hq => h3.2.2 q hq) hd X.2.2.2.2.2.2.2.1
theorem r_lret {a : α} {z : Int} {rm : Room} {W' : α → va_W} {rv : α → Option Value} (X : Kok K cc own Ts R0 (some .long) nL) (e1 : rv a = some (vL z)) (e2 : W' a = ws) (hc : cl ≤ rm.cells ∧ sl ≤ rm.slots) (hd : decode cc pc = .ok (.lreturn, 1)) : Rn K (Qm K rm W' rv) cl sl (some a) pc lv [vL z] ws := by
  intro a' ha hz H locs ls h1 h2 h3 hl
  cases ha
  refine W.widen hc.1 hc.2 ?_
  unfold Qm
  rw [e1, e2]
  exact W.lret X.1 X.2.1 X.2.2.2.2.2.2.2.2.2.1 (fun t ht _ => z_Qo X rfl ht h1 h2 h3) (fun q hq => h3.2.2 q hq) hd X.2.2.2.2.2.2.2.1
theorem r_vret {a : α} {rm : Room} {W' : α → va_W} {rv : α → Option Value} (X : Kok K cc own Ts R0 none nL) (e1 : rv a = none) (e2 : W' a = ws) (hc : cl ≤ rm.cells ∧ sl ≤ rm.slots) (hd : decode cc pc = .ok (.return_, 1)) : Rn K (Qm K rm W' rv) cl sl (some a) pc lv [] ws := by
  intro a' ha hz H locs ls h1 h2 h3 hl
  cases ha
  refine W.widen hc.1 hc.2 ?_
  unfold Qm
  rw [e1, e2]
  exact W.vret X.1 X.2.1 X.2.2.2.2.2.2.2.2.2.1 (fun t ht _ => z_Qo X rfl ht h1 h2 h3) (fun q hq => h3.2.2 q hq) hd X.2.2.2.2.2.2.2.1
theorem r_gret {a : α} {x : Option Nat} {C : String} {rm : Room} {W' : α → va_W} {rv : α → Option Value} (X : Kok K cc own Ts R0 (some (.object C)) nL) (e1 : rv a = some (va_rf x)) (e2 : W' a = ws) (hc : cl ≤ rm.cells ∧ sl ≤ rm.slots) (hd : decode cc pc = .ok (.areturn, 1)) : Rn K (Qm K rm W' rv) cl sl (some a) pc lv [va_rf x] ws := by
  intro a' ha hz H locs ls h1 h2 h3 hl
  cases ha
  refine W.widen hc.1 hc.2 ?_
  unfold Qm
  rw [e1, e2]
  exact W.aret X.1 X.2.1 X.2.2.2.2.2.2.2.2.2.1 (Or.inl ⟨_, rfl⟩) (by cases x with | none => exact Or.inl rfl | some b => exact Or.inr ⟨b, rfl⟩) (fun t ht _ => z_Qo X rfl ht h1 h2 h3) (fun q hq => h3.2.2 q hq) hd X.2.2.2.2.2.2.2.1
theorem r_call {g : Option β} {k : β → Option α} {W' : β → va_W} {rv : β → Option Value} {mc ms : Nat} {av : Array Value} (hZ : ∀ b, g = some b → Zd (kB K) (W' b))
    (hrun : ∀ b, g = some b → ∀ (H : Heap) (locs : List Loc) (ls : Array Slot), H.size = kB K + ws.length → va_P K.2.2.1.1 vwCl ws H → lv_has ls K.2.2.2 lv → va_Run K.1.1 K.1.2.1 K.1.2.2.1 K.1.2.2.2.1 K.1.2.2.2.2 K.2.1.1 K.2.1.2.1 K.2.1.2.2.1 K.2.1.2.2.2.1 K.2.1.2.2.2.2 H locs cl sl mc ms (F0 K.2.1.1 pc ls st) rest (Qo K.2.2.1.1 (kB K) (W' b) (rv b) av) (fun q => kB K ≤ q))
    (kk : ∀ b, g = some b → Rn K Qf (cl + mc) (sl + ms) (k b) (pc + 3) lv ((rv b).toList ++ rest) (W' b)) : Rn K Qf cl sl (bn g k) pc lv st ws := by
  intro a ha hz H locs ls h1 h2 h3 hl
  cases hg : g with
  | none => rw [hg] at ha; cases ha
  | some b =>
    have ha' : k b = some a := by rw [hg] at ha; exact ha
    intro T hT XX
    obtain ⟨v, st₀, t, T', L, h0, X', hL, e1, e2, ⟨hv, hz1, hz2, hP', hold⟩, hgo⟩ := hrun b hg H locs ls h1 h2 hl T hT XX
    have hv : v = rv b := by injection hv
    subst hv
    rw [h0] at hz1 hold
    obtain ⟨t2, a1, b1⟩ := kk b hg a ha' (hZ b hg) T'.heap (locs ++ L) ls (by rw [e1]; exact hz2) (by rw [e1]; exact hP') ⟨Nat.le_trans h3.1 (by rw [e1]; exact hz1), fun q hq1 hq2 => by rw [e1, hold q (Nat.not_le.mp hq2)]; exact h3.2.1 q hq1 hq2, fun q hq => by
      rcases List.mem_append.mp hq with h | h
      · exact h3.2.2 q h
      · exact hL q h⟩ hl T' rfl X'
    exact ⟨t2, hgo t2 a1, b1⟩
variable {idx maxL n ci q0 b : Nat} {y : MethodName} {bytes : ByteArray} {ret : Option FieldType} {wsy wsr : List Cond} {rm : Room} {As : List Value} {fs : List Value} {cq : vw_C}
variable {g : Option β} {k : β → Option α} {W' : β → va_W} {rv : β → Option Value}
theorem r_callV (X : Kok K cc own Ts R0 rt nL) (hd : decode cc pc = .ok (.invokevirtual idx, 3)) (hst : st = As.reverse ++ .ref b :: rest)
    (hc : ∀ a, g = some a → Ct K.1.2.1 y wsy rm K.2.2.1.1 (kE K) (.ref b :: As) ws (W' a) (rv a)) (hZ : ∀ a, Zd (kB K) (W' a))
    (hg : GoodIn Ts (wsV own idx y.cls y wsy)) (hw : wsy = Cond.code y bytes maxL ret :: wsr) (hdd : y.cls ≠ "java/lang/invoke/MethodHandle" ∧ y.cls ≠ "java/lang/invoke/VarHandle" ∧ (parseMethodDescriptor y.desc).map (fun d => d.parameters.length) = some n) (hn : As.length = n)
    (hR : rm.frames + 1 ≤ R0.frames ∧ 8 + (maxL + 11) + rm.locals ≤ R0.locals ∧ cl + rm.cells ≤ R0.cells ∧ sl + rm.slots ≤ R0.slots) (hci : vwCl[ci]? = some cq) (hcq : cq.1 = y.cls) (he : ws[q0]? = some (b, .inr (ci, fs))) (hroom : (rest.map fun v => v.category).sum ≤ 8)
    (kk : ∀ a, g = some a → Rn K Qf (cl + rm.cells) (sl + rm.slots) (k a) (pc + 3) lv ((rv a).toList ++ rest) (W' a)) : Rn K Qf cl sl (bn g k) pc lv st ws := by
  refine r_call (av := (Value.ref b :: As).toArray) (fun a _ => hZ a) (fun a ha H locs ls h1 h2 hl => ?_) kk
  have hrec := va_recv X.2.2.2.2.2.1 h2 hci he
  rw [hcq] at hrec
  exact va_runV (As := As) (rest := rest) ⟨X.1, X.2.1, X.2.2.1, X.2.2.2.1, X.2.2.2.2.1⟩ (hc a ha) (cwV n X.2.2.2.2.1 hg hw rfl rfl ⟨rfl, hdd⟩ (by rw [X.2.2.2.2.2.2.2.2.1]; exact ⟨hR.1, hR.2.1⟩)) ⟨Po.blind, hrec, fun U hU hW => ⟨rfl, by rw [hU]; exact h1, by rw [hU]; exact h2, va_K.moved hW.alike X.2.2.2.2.2.1, X.2.2.2.2.2.2.1.moved hW⟩⟩ rfl hn hl.1 hst (lv_room (m := K.2.1.1) (pc := pc) (ls := ls) (rest := st) hroom) hd (by rw [X.2.2.2.2.2.2.2.2.1]; exact hR.2.2)
theorem r_callS (X : Kok K cc own Ts R0 rt nL) (hd : decode cc pc = .ok (.invokestatic idx, 3)) (hst : st = As.reverse ++ rest)
    (hc : ∀ a, g = some a → Ct K.1.2.1 y wsy rm K.2.2.1.1 (kE K) As ws (W' a) (rv a)) (hZ : ∀ a, Zd (kB K) (W' a))
    (hg : GoodIn Ts (va_wsS own idx y wsy)) (hw : wsy = Cond.code y bytes maxL ret :: wsr) (hdd : y.cls ≠ "java/lang/invoke/MethodHandle" ∧ y.cls ≠ "java/lang/invoke/VarHandle" ∧ (parseMethodDescriptor y.desc).map (fun d => d.parameters.length) = some n) (hn : As.length = n)
    (hR : rm.frames + 1 ≤ R0.frames ∧ 8 + (maxL + 11) + rm.locals ≤ R0.locals ∧ cl + rm.cells ≤ R0.cells ∧ sl + rm.slots ≤ R0.slots) (hroom : (rest.map fun v => v.category).sum ≤ 8)
    (kk : ∀ a, g = some a → Rn K Qf (cl + rm.cells) (sl + rm.slots) (k a) (pc + 3) lv ((rv a).toList ++ rest) (W' a)) : Rn K Qf cl sl (bn g k) pc lv st ws := by
  refine r_call (av := As.toArray) (fun a _ => hZ a) (fun a ha H locs ls h1 h2 hl => ?_) kk
  exact va_runS (As := As) (rest := rest) ⟨X.1, X.2.1, X.2.2.1, X.2.2.2.1, X.2.2.2.2.1⟩ (hc a ha) (va_cwS n X.2.2.2.2.1 hg hw rfl rfl hdd (by rw [X.2.2.2.2.2.2.2.2.1]; exact ⟨hR.1, hR.2.1⟩)) ⟨Po.blind, fun U hU hW => ⟨rfl, by rw [hU]; exact h1, by rw [hU]; exact h2, va_K.moved hW.alike X.2.2.2.2.2.1, X.2.2.2.2.2.2.1.moved hW⟩⟩ rfl hn hl.1 hst (lv_room (m := K.2.1.1) (pc := pc) (ls := ls) (rest := st) hroom) hd (by rw [X.2.2.2.2.2.2.2.2.1]; exact hR.2.2)
theorem r_callN (X : Kok K cc own Ts R0 rt nL) (hd : decode cc pc = .ok (.invokestatic idx, 3)) (hst : st = As.reverse ++ rest)
    (hc : ∀ a, g = some a → Ct K.1.2.1 y wsy rm K.2.2.1.1 (kE K) As ws (W' a) (rv a)) (hZ : ∀ a, Zd (kB K) (W' a))
    (hg : GoodIn Ts wsy) (hnest : (own, idx, y, "LoopTypes") ∈ Zn) (hstat : Cond.static y ∈ Ts) (hini : Cond.initialized y.cls ∈ Ts) (hw : wsy = Cond.code y bytes maxL ret :: wsr) (hdd : y.cls ≠ "java/lang/invoke/MethodHandle" ∧ y.cls ≠ "java/lang/invoke/VarHandle" ∧ (parseMethodDescriptor y.desc).map (fun d => d.parameters.length) = some n) (hn : As.length = n)
    (hR : rm.frames + 1 ≤ R0.frames ∧ 8 + (maxL + 11) + rm.locals ≤ R0.locals ∧ cl + rm.cells ≤ R0.cells ∧ sl + rm.slots ≤ R0.slots) (hroom : (rest.map fun v => v.category).sum ≤ 8)
    (kk : ∀ a, g = some a → Rn K Qf (cl + rm.cells) (sl + rm.slots) (k a) (pc + 3) lv ((rv a).toList ++ rest) (W' a)) : Rn K Qf cl sl (bn g k) pc lv st ws := by
  refine r_call (av := As.toArray) (fun a _ => hZ a) (fun a ha H locs ls h1 h2 hl => ?_) kk
  exact va_runSN (As := As) (rest := rest) ⟨X.1, X.2.1, X.2.2.1, X.2.2.2.1, X.2.2.2.2.1⟩ (hc a ha) ⟨va_cnB (host := "LoopTypes") n X.2.2.2.2.1 hg hw rfl rfl (X.2.2.2.2.2.2.1.1 _ hnest) (X.2.2.2.2.1 _ hini) hdd (by rw [X.2.2.2.2.2.2.2.2.1]; exact ⟨hR.1, hR.2.1⟩), X.2.2.2.2.1 _ hstat, trivial⟩ ⟨Po.blind, fun U hU hW => ⟨rfl, by rw [hU]; exact h1, by rw [hU]; exact h2, va_K.moved hW.alike X.2.2.2.2.2.1, X.2.2.2.2.2.2.1.moved hW⟩⟩ rfl hn hl.1 hst (lv_room (m := K.2.1.1) (pc := pc) (ls := ls) (rest := st) hroom) hd (by rw [X.2.2.2.2.2.2.2.2.1]; exact hR.2.2)
theorem r_min {x z : Int} (X : Kok K cc own Ts R0 rt nL) (hx : inR x) (hy : inR z) (hw1 : Cond.methodLink own idx Lib.Math.min.name ∈ Ts) (hw2 : Cond.static Lib.Math.min.name ∈ Ts) (hw3 : Cond.initialized "java/lang/Math" ∈ Ts) (hw4 : Cond.code Lib.Math.min.name Lib.Math.min.code 2 (some .int) ∈ Ts)
    (hR : 1 ≤ R0.frames ∧ (st.map fun v => v.category).sum + 13 ≤ R0.locals ∧ cl ≤ R0.cells ∧ sl ≤ R0.slots) (hd : decode cc pc = .ok (.invokestatic idx, 3)) (kk : Rn K Qf cl sl o (pc + 3) lv (vI (min x z) :: st) ws) : Rn K Qf cl sl o pc lv (vI z :: vI x :: st) ws := by
  intro a ha hz H locs ls h1 h2 h3 hl
  have hts := X.2.2.2.2.1
  have hr := X.2.2.2.2.2.2.2.2.1
  refine va_mmin X.1 X.2.1 (X.2.2.1.trans hl.1.symm) X.2.2.2.1 (hts _ hw1) (hts _ hw2) (hts _ hw3) (hts _ hw4) (by rw [hr]; exact hR.1) (by rw [hr]; exact hR.2.1) (by rw [hr]; exact hR.2.2.1) (by rw [hr]; exact hR.2.2.2) hd ?_
  have e : (if Int32.ofInt z < Int32.ofInt x then Int32.ofInt z else Int32.ofInt x) = Int32.ofInt (min x z) := by
    simp only [z_ilt hy hx]
    split
    · congr 1; omega
    · congr 1; omega
  rw [e]
  exact kk a ha hz H locs ls h1 h2 h3 hl
theorem r_max {x z : Int} (X : Kok K cc own Ts R0 rt nL) (hx : inR x) (hy : inR z) (hw1 : Cond.methodLink own idx Lib.Math.max.name ∈ Ts) (hw2 : Cond.static Lib.Math.max.name ∈ Ts) (hw3 : Cond.initialized "java/lang/Math" ∈ Ts) (hw4 : Cond.code Lib.Math.max.name Lib.Math.max.code 2 (some .int) ∈ Ts)
    (hR : 1 ≤ R0.frames ∧ (st.map fun v => v.category).sum + 13 ≤ R0.locals ∧ cl ≤ R0.cells ∧ sl ≤ R0.slots) (hd : decode cc pc = .ok (.invokestatic idx, 3)) (kk : Rn K Qf cl sl o (pc + 3) lv (vI (max x z) :: st) ws) : Rn K Qf cl sl o pc lv (vI z :: vI x :: st) ws := by
  intro a ha hz H locs ls h1 h2 h3 hl
  have hts := X.2.2.2.2.1
  have hr := X.2.2.2.2.2.2.2.2.1
  refine va_mmax X.1 X.2.1 (X.2.2.1.trans hl.1.symm) X.2.2.2.1 (hts _ hw1) (hts _ hw2) (hts _ hw3) (hts _ hw4) (by rw [hr]; exact hR.1) (by rw [hr]; exact hR.2.1) (by rw [hr]; exact hR.2.2.1) (by rw [hr]; exact hR.2.2.2) hd ?_
  have e : (if Int32.ofInt x < Int32.ofInt z then Int32.ofInt z else Int32.ofInt x) = Int32.ofInt (max x z) := by
    simp only [z_ilt hx hy]
    split
    · congr 1; omega
    · congr 1; omega
  rw [e]
  exact kk a ha hz H locs ls h1 h2 h3 hl
/-- a method's contract out of the walk of its body, at one E -/
theorem ct_at {y : MethodName} {wsy wsr : List Cond} {bytes : ByteArray} {maxL : Nat} {ret : Option FieldType} {rm : Room} {E : ET} {av : List Value} {W0 : va_W} {W1 : α → va_W} {rw : α → Option Value} (hy : plainName y.cls = true) (hw : wsy = Cond.code y bytes maxL ret :: wsr) (hZ : Zd E.2.2.2 W0) (hn : (lg_sl av).length ≤ maxL)
    (body : ∀ K, Kok K bytes y.cls wsr rm ret maxL → kE K = E → K.2.1.2.2.2.1.name = y.name → Rn K (Qm K rm W1 rw) 0 0 o 0 (lv_args 0 av) [] W0) (l : Launch) (D : va_G) (a : α) (ha : o = some a) : Ct l y wsy rm D E av W0 (W1 a) (rw a) := by
  refine Met.ofW (cc := bytes) (maxL := maxL) (ret := ret) hy hw ?_
  intro p e s m args below meth c s₁ B hml hv
  obtain ⟨rfl, h1, h2, hK, hN⟩ := hv
  have hts : ∀ w ∈ wsr, w.before (av.toArray) s = true := fun w h => atoms_spec (ws := wsy) B.pre w (by rw [hw]; exact List.mem_cons_of_mem _ h)
  have hl := lv_entry av (n := maxL) hn
  rw [lg_entry_eq]
  generalize (lg_sl av ++ List.replicate (maxL - (lg_sl av).length) Slot.unset).toArray = ls at hl ⊢
  have key := body ((p, l, e, (headSpec wsy rm).room, s), (m, av.toArray, below, meth, c), (D, E), maxL) ⟨B.exec, B.bytes, hml, findClass_of_methodNamed B.named, hts, hK, hN, B.notSynchronized, rfl, B.returns, rfl, by show E.2.2.2 ≤ s.heap.size; omega⟩ rfl (name_of_methodNamed B.named B.method).1 a ha hZ s.heap [] ls h1 h2 va_S.rf hl
  exact key
theorem ct_of {y : MethodName} {wsy wsr : List Cond} {bytes : ByteArray} {maxL : Nat} {ret : Option FieldType} {rm : Room} {av : ET → List Value} {W0 : ET → va_W} {W1 : ET → α → va_W} {rw : ET → α → Option Value} (hy : plainName y.cls = true) (hw : wsy = Cond.code y bytes maxL ret :: wsr) (hZ : ∀ E, Zd E.2.2.2 (W0 E)) (hn : ∀ E, (lg_sl (av E)).length ≤ maxL)
    (body : ∀ K, Kok K bytes y.cls wsr rm ret maxL → Rn K (Qm K rm (W1 (kE K)) (rw (kE K))) 0 0 o 0 (lv_args 0 (av (kE K))) [] (W0 (kE K))) (l : Launch) (D : va_G) (E : ET) (a : α) (ha : o = some a) : Ct l y wsy rm D E (av E) (W0 E) (W1 E a) (rw E a) :=
  ct_at hy hw (hZ E) (hn E) (fun K X e _ => by subst e; exact body K X) l D a ha
end Ends
