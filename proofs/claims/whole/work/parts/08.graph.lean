/-! Graph(int[]), and the world with a new row behind it -/
abbrev Rm_Gi : Room := { frames := 1, cells := 0, slots := 0, locals := 12 }
set_option maxRecDepth 100000 in
set_option maxHeartbeats 4000000 in
theorem t_X2_init (K : KT) (X : Kok K cX2_init yX2_init.cls lw_g Rm_Gi none 2) (hnm : K.2.1.2.2.2.1.name = "<init>") (ws : va_W) (qo qa bo ba : Nat) (z : Int) (f : Int → Int) (hz : 0 ≤ z ∧ z ≤ 120) (ho : ws[qo]? = some (bo, .inr (2, [vI 0, .null]))) (ha : ws[qa]? = some (ba, .inl ((kE K).1, z.toNat, .inl (f32 f)))) (hne : qo ≠ qa) : Rn K (Qm K Rm_Gi (fun _ : Unit => ws.set qo (bo, .inr (2, [vI (z.tdiv 3), .ref ba]))) (fun _ => none)) 0 0 (some ()) 0 [(0, .ref bo), (1, .ref ba)] [] ws := by
  have hlt : qo < ws.length := (List.getElem?_eq_some_iff.mp ho).1
  refine r_aload_n (pc := 0) X 0 dX2_init_0 rfl rfl ?_
  refine r_objInit (pc := 1) X to_X2 to_inst to_code dX2_init_1 (by decide) ?_
  refine r_aload_n (pc := 4) X 0 dX2_init_4 rfl rfl ?_
  refine r_aload_n (pc := 5) X 1 dX2_init_5 rfl rfl ?_
  refine r_putF (pc := 6) X hnm qo 1 inX2 tyX2 tyX2_ok nmX2 ho rfl (by decide) tf_X2_9 rfl rfl (tyX2_ok 1 (by decide)) rfl rfl (Nat.le_of_ble_eq_true rfl) rfl dX2_init_6 ?_
  refine r_aload_n (pc := 9) X 0 dX2_init_9 rfl rfl ?_
  refine r_aload_n (pc := 10) X 1 dX2_init_10 rfl rfl ?_
  refine r_alenG (pc := 11) (z := z) (f := f) X qa hz.1 (by rw [List.getElem?_set_ne hne]; exact ha) dX2_init_11 ?_
  refine r_iconst (pc := 12) X 3 dX2_init_12 (by decide) ?_
  refine r_idiv (pc := 13) X ⟨by omega, by omega⟩ (by decide) (by decide) dX2_init_13 ?_
  refine r_putF (pc := 14) (fs := [vI 0, .ref ba]) (v := vI (z.tdiv 3)) X hnm qo 0 inX2 tyX2 tyX2_ok nmX2 (List.getElem?_set_self hlt) rfl (by decide) tf_X2_15 rfl rfl (tyX2_ok 0 (by decide)) rfl rfl (Nat.le_of_ble_eq_true rfl) rfl dX2_init_14 ?_
  exact r_vret (pc := 17) X rfl (by rw [List.set_set]; rfl) (by decide) dX2_init_17
theorem c_X2_init (ws : va_W) (qo qa bo ba : Nat) (z : Int) (f : Int → Int) (hz : 0 ≤ z ∧ z ≤ 120) (hne : qo ≠ qa) (l : Launch) (D : va_G) (E : ET) (hZ : Zd E.2.2.2 ws) (ho : ws[qo]? = some (bo, .inr (2, [vI 0, .null]))) (ha : ws[qa]? = some (ba, .inl (E.1, z.toNat, .inl (f32 f)))) (a : Unit) (h : some () = some a) : Ct l yX2_init (Cond.code yX2_init cX2_init 2 none :: lw_g) Rm_Gi D E [.ref bo, .ref ba] ws (ws.set qo (bo, .inr (2, [vI (z.tdiv 3), .ref ba]))) none :=
  ct_at (av := [.ref bo, .ref ba]) (W0 := ws) (W1 := fun _ : Unit => ws.set qo (bo, .inr (2, [vI (z.tdiv 3), .ref ba]))) (rw := fun _ => none) (by decide) rfl hZ (by simp [lg_sl, z_catR]) (fun K X e hn => r_lv (by simp [lv_args, z_catR]) (t_X2_init K X hn ws qo qa bo ba z f hz ho (by rw [e]; exact ha) hne)) l D a h
-- the world with a new row behind it
def XA (P : PL) (z : Int) (F : Int → Int) : ET → va_W := fun E => [(E.2.2.2 + (61 + 2 * P.length), .inl (E.1, z.toNat, .inl (f32 F)))]
def Zx (E : ET) (XT : ET → va_W) (lt b c ms rd m : Bd) (P : PL) : va_W := Zw E lt b c ms rd m P ++ XT E
def Zxd (XT : ET → va_W) (P : PL) : Prop := ∀ (E : ET) (lt b c ms rd m : Bd), Zd E.2.2.2 (Zx E XT lt b c ms rd m P)
theorem Zx_d (P : PL) (z : Int) (F : Int → Int) : Zxd (XA P z F) P := fun E lt b c ms rd m => (Zw_d E lt b c ms rd m P).push (Zw_len E lt b c ms rd m P) _
theorem Zx_at (E : ET) (lt b c ms rd m : Bd) (P : PL) (z : Int) (F : Int → Int) : (Zx E (XA P z F) lt b c ms rd m P)[61 + 2 * P.length]? = some (E.2.2.2 + (61 + 2 * P.length), .inl (E.1, z.toNat, .inl (f32 F))) := by
  unfold Zx
  rw [List.getElem?_append_right (by rw [Zw_len]; exact Nat.le_refl _), Zw_len, Nat.sub_self]
  rfl
theorem Zx_set (E : ET) (lt b c ms rd m : Bd) (P : PL) (z : Int) (F G : Int → Int) : (Zx E (XA P z F) lt b c ms rd m P).set (61 + 2 * P.length) (E.2.2.2 + (61 + 2 * P.length), .inl (E.1, z.toNat, .inl (f32 G))) = Zx E (XA P z G) lt b c ms rd m P := by
  unfold Zx
  rw [List.set_append_right _ _ (by rw [Zw_len]; exact Nat.le_refl _), Zw_len, Nat.sub_self]
  rfl
theorem Zp_push (E : ET) (g : Gr) (P : PL) : ∀ k, Zp E k (P ++ [g]) = Zp E k P ++ [(E.2.2.2 + (61 + 2 * (k + P.length)), .inl (E.1, (3 * g.1).toNat, .inl (f32 g.2))), (E.2.2.2 + (62 + 2 * (k + P.length)), .inr (2, [vI g.1, .ref (E.2.2.2 + (61 + 2 * (k + P.length)))]))] := by
  induction P with
  | nil => intro k; rfl
  | cons g0 gs ih =>
    intro k
    show Zp E k (g0 :: (gs ++ [g])) = Zp E k (g0 :: gs) ++ _
    simp only [Zp, ih (k + 1), List.cons_append, List.length_cons]
    rw [show k + 1 + gs.length = k + (gs.length + 1) by omega]
theorem Zw_push (E : ET) (lt b c ms rd m : Bd) (P : PL) (z : Int) (F : Int → Int) : Zx E (XA P (3 * z) F) lt b c ms rd m P ++ [(E.2.2.2 + (62 + 2 * P.length), .inr (2, [vI z, .ref (E.2.2.2 + (61 + 2 * P.length))]))] = Zw E lt b c ms rd m (P ++ [(z, F)]) := by
  unfold Zx XA Zw
  rw [Zp_push, Nat.zero_add]
  simp only [List.append_assoc, List.cons_append, List.nil_append]
theorem r_newR {K : KT} {α : Type} {Qf : α → State → Prop} {cl sl : Nat} {o : Option α} {pc : Nat} {lv : List (Nat × Value)} {st : List Value} {cc : ByteArray} {own : String} {R0 : Room} {rt : Option FieldType} {nL : Nat} {lt b c ms rd m : Bd} {P : PL} {z : Int} (X : Kok K cc own lw_g R0 rt nL) (hz : 0 ≤ z ∧ z < 121) (hcell : cl + 1 ≤ R0.cells ∧ sl + 120 ≤ R0.slots) (hd : decode cc pc = .ok (.newarray .int, 2)) (kk : Rn K Qf (cl + 1) (sl + 120) o (pc + 2) lv (.ref (kB K + (61 + 2 * P.length)) :: st) (Zx (kE K) (XA P z (fun _ => 0)) lt b c ms rd m P)) : Rn K Qf cl sl o pc lv (vI z :: st) (Zw (kE K) lt b c ms rd m P) :=
  r_newI X (61 + 2 * P.length) z.toNat ⟨hz.1, by omega⟩ rfl (Zw_len _ _ _ _ _ _ _ _) rfl ta_int ⟨hcell.1, by have := hcell.2; omega⟩ hd (r_widen (Nat.le_refl _) (by omega) kk)
