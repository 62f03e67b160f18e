/-! The rules of G for the heap: fields, arrays, objects made, calls. -/
/-- a field: its class's number, its place, its type (0 int or boolean, 1 long, 2 reference), its names -/
def g_fld (ci f t : Nat) (K nm ds : String) (fin : Bool) (ft : FieldType) (T : u_T) (N : Nat) (ty : Nat → FieldType) : Prop :=
  vwCl[ci]? = some (K, T, N) ∧ ci < 11 ∧ f < N ∧ (g_ty ci)[f]? = some t ∧ T f = (K, nm, ds, fin) ∧ ty f = ft ∧ (∀ k, k < N → parseFieldDescriptor (T k).2.2.1 = some (ty k)) ∧ (∀ a, a < N → ∀ b, b < N → a ≠ b → (T a).2.1 ≠ (T b).2.1) ∧ ∀ w ∈ u_ws K T N, w ∈ g_tb
section GH1
variable {Γ : GX} {y : MethodName} {cc : ByteArray} {nL : Nat} {rt : Option FieldType} {rb : GR} {pc : Nat} {lv lv' : List (Option Value)} {st : List Value} {h : PH} {cs : Nat × Nat} {Q : Option Value → PH → Prop} {Ω : List Frame → Array Value → State → State → Prop}
variable {ci f t idx a : Nat} {K nm ds host : String} {fin : Bool} {ft : FieldType} {T : u_T} {N : Nat} {ty : Nat → FieldType}
theorem G_get (F : g_fld ci f t K nm ds fin ft T N ty) (hl : Cond.fieldLink y.cls idx K nm ds ∈ g_tb) (hd : decode cc pc = .ok (.getfield idx, 3)) (ha : hK h a = ci) (kk : GZ Γ Ω y cc nL rt rb (pc + 3) lv (g_fv h a t f :: st) h cs) : GZ Γ Ω y cc nL rt rb pc lv (.ref a :: st) h cs := by
  intro p e s m args below meth c C ls H locs hlv hH hS
  obtain ⟨f1, f2, f3, f4, f5, f6, f7, f8, f9⟩ := F
  have e1 : (T f).1 = K := by rw [f5]
  have e2 : (T f).2.1 = nm := by rw [f5]
  have e3 : (T f).2.2.1 = ds := by rw [f5]
  obtain ⟨k0, hk0⟩ := hH.at (a := a) (by omega)
  rw [g_cell_obj ha f2] at hk0
  refine va_get C.1 C.2.1 C.2.2.2.2.1 f9 C.2.2.2.2.2.1 C.2.2.2.2.2.2.2.2.1 hH.2.2.1 k0 hk0 f1 f f3 (ref := K) (index := idx) ?_ (fun z hz => by rw [e1] at hz; exact hz) (g_fs_get f4) hd (kk p e s m args below meth c C ls H locs hlv hH hS)
  rw [e2, e3]
  exact C.2.2.2.2.1 _ hl
theorem G_getI (F : g_fld ci f 0 K nm ds fin ft T N ty) (hl : Cond.fieldLink y.cls idx K nm ds ∈ g_tb) (hd : decode cc pc = .ok (.getfield idx, 3)) (ha : hK h a = ci) (kk : GZ Γ Ω y cc nL rt rb (pc + 3) lv (.int (hI h a f) :: st) h cs) : GZ Γ Ω y cc nL rt rb pc lv (.ref a :: st) h cs := G_get F hl hd ha kk
theorem G_getJ (F : g_fld ci f 1 K nm ds fin ft T N ty) (hl : Cond.fieldLink y.cls idx K nm ds ∈ g_tb) (hd : decode cc pc = .ok (.getfield idx, 3)) (ha : hK h a = ci) (kk : GZ Γ Ω y cc nL rt rb (pc + 3) lv (.long (hJ h a f) :: st) h cs) : GZ Γ Ω y cc nL rt rb pc lv (.ref a :: st) h cs := G_get F hl hd ha kk
theorem G_getR (F : g_fld ci f 2 K nm ds fin ft T N ty) (hl : Cond.fieldLink y.cls idx K nm ds ∈ g_tb) (hd : decode cc pc = .ok (.getfield idx, 3)) (ha : hK h a = ci) (kk : GZ Γ Ω y cc nL rt rb (pc + 3) lv (va_rf (hR h a f) :: st) h cs) : GZ Γ Ω y cc nL rt rb pc lv (.ref a :: st) h cs := G_get F hl hd ha kk
theorem G_getN (F : g_fld ci f t K nm ds fin ft T N ty) (hl : Cond.fieldLinkNest y.cls idx K nm ds host ∈ g_tb) (hd : decode cc pc = .ok (.getfield idx, 3)) (ha : hK h a = ci) (kk : GZ Γ Ω y cc nL rt rb (pc + 3) lv (g_fv h a t f :: st) h cs) : GZ Γ Ω y cc nL rt rb pc lv (.ref a :: st) h cs := by
  intro p e s m args below meth c C ls H locs hlv hH hS
  obtain ⟨f1, f2, f3, f4, f5, f6, f7, f8, f9⟩ := F
  have e1 : (T f).1 = K := by rw [f5]
  have e2 : (T f).2.1 = nm := by rw [f5]
  have e3 : (T f).2.2.1 = ds := by rw [f5]
  obtain ⟨k0, hk0⟩ := hH.at (a := a) (by omega)
  rw [g_cell_obj ha f2] at hk0
  refine va_getN C.1 C.2.1 C.2.2.2.2.1 f9 C.2.2.2.2.2.1 C.2.2.2.2.2.2.2.2.1 hH.2.2.1 k0 hk0 f1 f f3 (ref := K) (index := idx) (host := host) ?_ (fun z hz => by rw [e1] at hz; exact hz) (g_fs_get f4) hd (kk p e s m args below meth c C ls H locs hlv hH hS)
  rw [e2, e3]
  exact C.2.2.2.2.1 _ hl
theorem G_getNI (F : g_fld ci f 0 K nm ds fin ft T N ty) (hl : Cond.fieldLinkNest y.cls idx K nm ds host ∈ g_tb) (hd : decode cc pc = .ok (.getfield idx, 3)) (ha : hK h a = ci) (kk : GZ Γ Ω y cc nL rt rb (pc + 3) lv (.int (hI h a f) :: st) h cs) : GZ Γ Ω y cc nL rt rb pc lv (.ref a :: st) h cs := G_getN F hl hd ha kk
theorem G_getNJ (F : g_fld ci f 1 K nm ds fin ft T N ty) (hl : Cond.fieldLinkNest y.cls idx K nm ds host ∈ g_tb) (hd : decode cc pc = .ok (.getfield idx, 3)) (ha : hK h a = ci) (kk : GZ Γ Ω y cc nL rt rb (pc + 3) lv (.long (hJ h a f) :: st) h cs) : GZ Γ Ω y cc nL rt rb pc lv (.ref a :: st) h cs := G_getN F hl hd ha kk
theorem G_getNR (F : g_fld ci f 2 K nm ds fin ft T N ty) (hl : Cond.fieldLinkNest y.cls idx K nm ds host ∈ g_tb) (hd : decode cc pc = .ok (.getfield idx, 3)) (ha : hK h a = ci) (kk : GZ Γ Ω y cc nL rt rb (pc + 3) lv (va_rf (hR h a f) :: st) h cs) : GZ Γ Ω y cc nL rt rb pc lv (.ref a :: st) h cs := G_getN F hl hd ha kk
/-- what a typed heap owes where one field is set -/
def g_set1 (h h1 : PH) (a f t : Nat) (v : Value) : Prop := hK h1 = hK h ∧ hz h1 = hz h ∧ hN h1 = hN h ∧ hW h1 = hW h ∧ (∀ b, b ≠ a → hI h1 b = hI h b ∧ hJ h1 b = hJ h b ∧ hR h1 b = hR h b) ∧ g_fv h1 a t f = v ∧ ∀ j u, j ≠ f → g_fv h1 a u j = g_fv h a u j
theorem g_set_I (h : PH) (a f : Nat) (v : Int32) : g_set1 h (sI h a f v) a f 0 (.int v) :=
  ⟨rfl, rfl, rfl, rfl, fun b hb => ⟨up2_a _ _ _ hb, rfl, rfl⟩, by show Value.int (up2 _ _ _ _ _ _) = _; rw [up2_self], fun j u hj => by
    unfold g_fv
    split
    · rw [hI_sI, up2_k _ _ _ hj]
    · rfl
    · rfl⟩
theorem g_set_J (h : PH) (a f : Nat) (v : Int64) : g_set1 h (sJ h a f v) a f 1 (.long v) :=
  ⟨rfl, rfl, rfl, rfl, fun b hb => ⟨rfl, up2_a _ _ _ hb, rfl⟩, by show Value.long (up2 _ _ _ _ _ _) = _; rw [up2_self], fun j u hj => by
    unfold g_fv
    split
    · rfl
    · rw [hJ_sJ, up2_k _ _ _ hj]
    · rfl⟩
theorem g_set_R (h : PH) (a f : Nat) (v : Option Nat) : g_set1 h (sR h a f v) a f 2 (va_rf v) :=
  ⟨rfl, rfl, rfl, rfl, fun b hb => ⟨rfl, rfl, up2_a _ _ _ hb⟩, by show va_rf (up2 _ _ _ _ _ _) = _; rw [up2_self], fun j u hj => by
    unfold g_fv
    split
    · rfl
    · rfl
    · rw [hR_sR, up2_k _ _ _ hj]⟩
theorem g_put_end {H H1 : Heap} {h1 : PH} {v : Value} {cell : Cell} (f1 : vwCl[ci]? = some (K, T, N)) (f2 : ci < 11) (f3 : f < N) (f4 : (g_ty ci)[f]? = some t) (hH : g_H Γ h H) (ha : hK h a = ci) (hs : g_set1 h h1 a f t v) (hap : ∀ x y, x < N → y < N → x ≠ y → (Γ.2.2.1.2 ci) x ≠ (Γ.2.2.1.2 ci) y)
    (q2 : cell.cls = Γ.2.2.1.1 ci) (q3 : cell.vm = .none) (q4 : ∀ k, k < N → cell.slots[Γ.2.2.1.2 ci k]? = some (vp_V (g_fs h a (g_ty ci)) k)) (e1 : H1[a]? = some (cell.setSlot (Γ.2.2.1.2 ci f) v)) (e2 : H1.size = H.size) (e3 : ∀ q : Nat, q ≠ a → H1[q]? = H[q]?) : g_H Γ h1 H1 := by
  obtain ⟨s1, s2, s3, s0, s4, s5, s6⟩ := hs
  have ha1 : hK h1 a = ci := by rw [s1]; exact ha
  refine hH.put (a := a) (by omega) s1 s2 (fun b hb => g_cell_congr (by rw [s1]) (by rw [s3]) (s4 b hb).1 (s4 b hb).2.1 (s4 b hb).2.2) ?_ e2 e3 s0
  rw [g_cell_obj ha1 f2, g_fs_set f4 s5 (fun j u _ hj => s6 j u hj)]
  exact ⟨_, f1, t_OB.to (V := updV (vp_V (g_fs h a (g_ty ci))) f v) ⟨_, e1, q2, q3, t_set q4 hap f3 v⟩ (fun j _ => vp_updV_set (by rw [g_fs_len]; exact (List.getElem?_eq_some_iff.mp f4).1) v j)⟩
theorem G_put {v : Value} {h1 : PH} (F : g_fld ci f t K nm ds false ft T N ty) (hl : Cond.fieldLink y.cls idx K nm ds ∈ g_tb) (hd : decode cc pc = .ok (.putfield idx, 3)) (ha : hK h a = ci) (hn : narrow ft v = v) (hfit : fits ft v = true) (hs : g_set1 h h1 a f t v) (kk : GZ Γ Ω y cc nL rt rb (pc + 3) lv st h1 cs) : GZ Γ Ω y cc nL rt rb pc lv (v :: .ref a :: st) h cs := by
  intro p e s m args below meth c C ls H locs hlv hH hS
  obtain ⟨f1, f2, f3, f4, f5, f6, f7, f8, f9⟩ := F
  have e1 : (T f).1 = K := by rw [f5]
  have e2 : (T f).2.1 = nm := by rw [f5]
  have e3 : (T f).2.2.1 = ds := by rw [f5]
  have e4 : (T f).2.2.2 = false := by rw [f5]
  have hts := C.2.2.2.2.1
  have hown := C.2.2.2.2.2.1
  have hK := C.2.2.2.2.2.2.2.2.1
  have hlink := hts _ hl
  obtain ⟨k0, hk0⟩ := hH.at (a := a) (by omega)
  rw [g_cell_obj ha f2] at hk0
  have hap := va_apart (own := y.cls) hts f9 ty f7 f8 hK f1
  obtain ⟨r, h1', cell, q1, q2, q3, q4⟩ := hH.2.2.1 k0 _ hk0
  have hr : r = (K, T, N) := Option.some.inj (h1'.symm.trans f1)
  subst hr
  obtain ⟨hSl, hfc, kC, hkC, hkind⟩ := hK.1 ci _ f1
  obtain ⟨cf, kf, fi, fd, hi, hsl⟩ := hSl f f3
  have hlay := hts _ (f9 _ (u_in_lay f3))
  unfold u_lay at hlay
  have hd2 : parseFieldDescriptor (T f).2.2.1 = some ft := by rw [f7 f f3, f6]
  have hst := (u_facts hfc hkC (u_lays hts f9 f3) hi).1
  have hi2 : s.fieldFound? K nm ds = some (cf, kf, fi, fd) := by rw [← e1, ← e2, ← e3]; exact hi
  rw [if_neg (by rw [e4]; decide)] at hlay
  have h6 := u_store hfc hkC hkind hlay hi hd2 hn hfit
  refine W.putK C.1 C.2.1 (f := fd) ⟨hown, hlink, ⟨_, _, _, hi2⟩, hst⟩ (by rw [q2]; exact h6) q1 q3 (by rw [hsl]; exact k2_hasslot (q4 f f3)) rfl rfl hd fun H' z1 z2 z3 => ?_
  rw [hsl] at z1 ⊢
  have hA : g_A Γ a := (hH.2.1 a (by omega)).1
  exact kk p e s m args below meth c C ls H' _ hlv (g_put_end f1 f2 f3 f4 hH ha hs hap q2 q3 q4 z1 z2 z3) (hS.put z2 z3 hA)
theorem G_putI {v : Int32} (F : g_fld ci f 0 K nm ds false .int T N ty) (hl : Cond.fieldLink y.cls idx K nm ds ∈ g_tb) (hd : decode cc pc = .ok (.putfield idx, 3)) (ha : hK h a = ci) (kk : GZ Γ Ω y cc nL rt rb (pc + 3) lv st (sI h a f v) cs) : GZ Γ Ω y cc nL rt rb pc lv (.int v :: .ref a :: st) h cs := G_put F hl hd ha rfl rfl (g_set_I h a f v) kk
theorem G_putZ {v : Int32} (F : g_fld ci f 0 K nm ds false .boolean T N ty) (hl : Cond.fieldLink y.cls idx K nm ds ∈ g_tb) (hd : decode cc pc = .ok (.putfield idx, 3)) (ha : hK h a = ci) (hv : v = 0 ∨ v = 1) (kk : GZ Γ Ω y cc nL rt rb (pc + 3) lv st (sI h a f v) cs) : GZ Γ Ω y cc nL rt rb pc lv (.int v :: .ref a :: st) h cs := G_put F hl hd ha (by rcases hv with rfl | rfl <;> rfl) (by rcases hv with rfl | rfl <;> rfl) (g_set_I h a f v) kk
theorem G_putJ {v : Int64} (F : g_fld ci f 1 K nm ds false .long T N ty) (hl : Cond.fieldLink y.cls idx K nm ds ∈ g_tb) (hd : decode cc pc = .ok (.putfield idx, 3)) (ha : hK h a = ci) (kk : GZ Γ Ω y cc nL rt rb (pc + 3) lv st (sJ h a f v) cs) : GZ Γ Ω y cc nL rt rb pc lv (.long v :: .ref a :: st) h cs := G_put F hl hd ha rfl rfl (g_set_J h a f v) kk
theorem G_putR {v : Option Nat} (F : g_fld ci f 2 K nm ds false ft T N ty) (hft : (∃ n, ft = .object n) ∨ ∃ t, ft = .array t) (hl : Cond.fieldLink y.cls idx K nm ds ∈ g_tb) (hd : decode cc pc = .ok (.putfield idx, 3)) (ha : hK h a = ci) (kk : GZ Γ Ω y cc nL rt rb (pc + 3) lv st (sR h a f v) cs) : GZ Γ Ω y cc nL rt rb pc lv (va_rf v :: .ref a :: st) h cs := G_put F hl hd ha (by rcases hft with ⟨n, rfl⟩ | ⟨n, rfl⟩ <;> cases v <;> rfl) (by rcases hft with ⟨n, rfl⟩ | ⟨n, rfl⟩ <;> cases v <;> rfl) (g_set_R h a f v) kk
theorem G_putN {v : Value} {h1 : PH} (F : g_fld ci f t K nm ds false ft T N ty) (hl : Cond.fieldLinkNest y.cls idx K nm ds host ∈ g_tb) (hd : decode cc pc = .ok (.putfield idx, 3)) (ha : hK h a = ci) (hn : narrow ft v = v) (hfit : fits ft v = true) (hs : g_set1 h h1 a f t v) (kk : GZ Γ Ω y cc nL rt rb (pc + 3) lv st h1 cs) : GZ Γ Ω y cc nL rt rb pc lv (v :: .ref a :: st) h cs := by
  intro p e s m args below meth c C ls H locs hlv hH hS
  obtain ⟨f1, f2, f3, f4, f5, f6, f7, f8, f9⟩ := F
  have e1 : (T f).1 = K := by rw [f5]
  have e2 : (T f).2.1 = nm := by rw [f5]
  have e3 : (T f).2.2.1 = ds := by rw [f5]
  have e4 : (T f).2.2.2 = false := by rw [f5]
  have hts := C.2.2.2.2.1
  have hown := C.2.2.2.2.2.1
  have hK := C.2.2.2.2.2.2.2.2.1
  have hlink := hts _ hl
  obtain ⟨k0, hk0⟩ := hH.at (a := a) (by omega)
  rw [g_cell_obj ha f2] at hk0
  have hap := va_apart (own := y.cls) hts f9 ty f7 f8 hK f1
  obtain ⟨r, h1', cell, q1, q2, q3, q4⟩ := hH.2.2.1 k0 _ hk0
  have hr : r = (K, T, N) := Option.some.inj (h1'.symm.trans f1)
  subst hr
  obtain ⟨hSl, hfc, kC, hkC, hkind⟩ := hK.1 ci _ f1
  obtain ⟨cf, kf, fi, fd, hi, hsl⟩ := hSl f f3
  have hlay := hts _ (f9 _ (u_in_lay f3))
  unfold u_lay at hlay
  have hd2 : parseFieldDescriptor (T f).2.2.1 = some ft := by rw [f7 f f3, f6]
  have hst := (u_facts hfc hkC (u_lays hts f9 f3) hi).1
  have hi2 : s.fieldFound? K nm ds = some (cf, kf, fi, fd) := by rw [← e1, ← e2, ← e3]; exact hi
  rw [if_neg (by rw [e4]; decide)] at hlay
  have h6 := u_store hfc hkC hkind hlay hi hd2 hn hfit
  refine va_WputK C.1 C.2.1 (f := fd) hown hlink hi2 hst (by rw [q2]; exact h6) q1 q3 (by rw [hsl]; exact k2_hasslot (q4 f f3)) rfl rfl hd fun H' z1 z2 z3 => ?_
  rw [hsl] at z1 ⊢
  have hA : g_A Γ a := (hH.2.1 a (by omega)).1
  exact kk p e s m args below meth c C ls H' _ hlv (g_put_end f1 f2 f3 f4 hH ha hs hap q2 q3 q4 z1 z2 z3) (hS.put z2 z3 hA)
theorem G_putNI {v : Int32} (F : g_fld ci f 0 K nm ds false .int T N ty) (hl : Cond.fieldLinkNest y.cls idx K nm ds host ∈ g_tb) (hd : decode cc pc = .ok (.putfield idx, 3)) (ha : hK h a = ci) (kk : GZ Γ Ω y cc nL rt rb (pc + 3) lv st (sI h a f v) cs) : GZ Γ Ω y cc nL rt rb pc lv (.int v :: .ref a :: st) h cs := G_putN F hl hd ha rfl rfl (g_set_I h a f v) kk
theorem G_putNZ {v : Int32} (F : g_fld ci f 0 K nm ds false .boolean T N ty) (hl : Cond.fieldLinkNest y.cls idx K nm ds host ∈ g_tb) (hd : decode cc pc = .ok (.putfield idx, 3)) (ha : hK h a = ci) (hv : v = 0 ∨ v = 1) (kk : GZ Γ Ω y cc nL rt rb (pc + 3) lv st (sI h a f v) cs) : GZ Γ Ω y cc nL rt rb pc lv (.int v :: .ref a :: st) h cs := G_putN F hl hd ha (by rcases hv with rfl | rfl <;> rfl) (by rcases hv with rfl | rfl <;> rfl) (g_set_I h a f v) kk
theorem G_putNJ {v : Int64} (F : g_fld ci f 1 K nm ds false .long T N ty) (hl : Cond.fieldLinkNest y.cls idx K nm ds host ∈ g_tb) (hd : decode cc pc = .ok (.putfield idx, 3)) (ha : hK h a = ci) (kk : GZ Γ Ω y cc nL rt rb (pc + 3) lv st (sJ h a f v) cs) : GZ Γ Ω y cc nL rt rb pc lv (.long v :: .ref a :: st) h cs := G_putN F hl hd ha rfl rfl (g_set_J h a f v) kk
theorem G_putNR {v : Option Nat} (F : g_fld ci f 2 K nm ds false ft T N ty) (hft : (∃ n, ft = .object n) ∨ ∃ t, ft = .array t) (hl : Cond.fieldLinkNest y.cls idx K nm ds host ∈ g_tb) (hd : decode cc pc = .ok (.putfield idx, 3)) (ha : hK h a = ci) (kk : GZ Γ Ω y cc nL rt rb (pc + 3) lv st (sR h a f v) cs) : GZ Γ Ω y cc nL rt rb pc lv (va_rf v :: .ref a :: st) h cs := G_putN F hl hd ha (by rcases hft with ⟨n, rfl⟩ | ⟨n, rfl⟩ <;> cases v <;> rfl) (by rcases hft with ⟨n, rfl⟩ | ⟨n, rfl⟩ <;> cases v <;> rfl) (g_set_R h a f v) kk
theorem G_putF {v : Value} {h1 : PH} (F : g_fld ci f t K nm ds true ft T N ty) (hl : Cond.fieldLink y.cls idx K nm ds ∈ g_tb) (hini : y.name = "<init>") (hcls : y.cls = K) (hd : decode cc pc = .ok (.putfield idx, 3)) (ha : hK h a = ci) (hn : narrow ft v = v) (hfit : fits ft v = true) (hs : g_set1 h h1 a f t v) (kk : GZ Γ Ω y cc nL rt rb (pc + 3) lv st h1 cs) : GZ Γ Ω y cc nL rt rb pc lv (v :: .ref a :: st) h cs := by
  intro p e s m args below meth c C ls H locs hlv hH hS
  obtain ⟨f1, f2, f3, f4, f5, f6, f7, f8, f9⟩ := F
  have e1 : (T f).1 = K := by rw [f5]
  have e2 : (T f).2.1 = nm := by rw [f5]
  have e3 : (T f).2.2.1 = ds := by rw [f5]
  have e4 : (T f).2.2.2 = true := by rw [f5]
  have hts := C.2.2.2.2.1
  have hown := C.2.2.2.2.2.1
  have hK := C.2.2.2.2.2.2.2.2.1
  have hlink := hts _ hl
  obtain ⟨k0, hk0⟩ := hH.at (a := a) (by omega)
  rw [g_cell_obj ha f2] at hk0
  have hap := va_apart (own := y.cls) hts f9 ty f7 f8 hK f1
  obtain ⟨r, h1', cell, q1, q2, q3, q4⟩ := hH.2.2.1 k0 _ hk0
  have hr : r = (K, T, N) := Option.some.inj (h1'.symm.trans f1)
  subst hr
  obtain ⟨hSl, hfc, kC, hkC, hkind⟩ := hK.1 ci _ f1
  obtain ⟨cf, kf, fi, fd, hi, hsl⟩ := hSl f f3
  have hlay := hts _ (f9 _ (u_in_lay f3))
  unfold u_lay at hlay
  have hd2 : parseFieldDescriptor (T f).2.2.1 = some ft := by rw [f7 f f3, f6]
  have hst := (u_facts hfc hkC (u_lays hts f9 f3) hi).1
  have hi2 : s.fieldFound? K nm ds = some (cf, kf, fi, fd) := by rw [← e1, ← e2, ← e3]; exact hi
  rw [if_pos e4] at hlay
  have hcf : m.cls = cf := by
    obtain ⟨_, _, c', _, _, _, -, -, hf', -, -, -, hown2, -⟩ := Cond.laysFinal_spec hlay
    have z1 : c' = cf := by have := hi.symm.trans hf'; simp at this; exact this.1.symm
    rw [e1, ← hcls] at hown2
    rw [← z1]; exact Option.some.inj (hown.symm.trans hown2)
  have h6 := u_fits hfc hkC hkind (Or.inr hlay) hi hd2 hn hfit
  refine W.putFinK C.1 C.2.1 hown hlink hi2 hst hcf (C.2.2.2.2.2.2.2.1.trans hini) (by rw [q2]; exact h6) q1 q3 (by rw [hsl]; exact k2_hasslot (q4 f f3)) rfl rfl hd fun H' z1 z2 z3 => ?_
  rw [hsl] at z1 ⊢
  have hA : g_A Γ a := (hH.2.1 a (by omega)).1
  exact kk p e s m args below meth c C ls H' _ hlv (g_put_end f1 f2 f3 f4 hH ha hs hap q2 q3 q4 z1 z2 z3) (hS.put z2 z3 hA)
theorem G_putFI {v : Int32} (F : g_fld ci f 0 K nm ds true .int T N ty) (hl : Cond.fieldLink y.cls idx K nm ds ∈ g_tb) (hini : y.name = "<init>") (hcls : y.cls = K) (hd : decode cc pc = .ok (.putfield idx, 3)) (ha : hK h a = ci) (kk : GZ Γ Ω y cc nL rt rb (pc + 3) lv st (sI h a f v) cs) : GZ Γ Ω y cc nL rt rb pc lv (.int v :: .ref a :: st) h cs := G_putF F hl hini hcls hd ha rfl rfl (g_set_I h a f v) kk
theorem G_putFZ {v : Int32} (F : g_fld ci f 0 K nm ds true .boolean T N ty) (hl : Cond.fieldLink y.cls idx K nm ds ∈ g_tb) (hini : y.name = "<init>") (hcls : y.cls = K) (hd : decode cc pc = .ok (.putfield idx, 3)) (ha : hK h a = ci) (hv : v = 0 ∨ v = 1) (kk : GZ Γ Ω y cc nL rt rb (pc + 3) lv st (sI h a f v) cs) : GZ Γ Ω y cc nL rt rb pc lv (.int v :: .ref a :: st) h cs := G_putF F hl hini hcls hd ha (by rcases hv with rfl | rfl <;> rfl) (by rcases hv with rfl | rfl <;> rfl) (g_set_I h a f v) kk
theorem G_putFJ {v : Int64} (F : g_fld ci f 1 K nm ds true .long T N ty) (hl : Cond.fieldLink y.cls idx K nm ds ∈ g_tb) (hini : y.name = "<init>") (hcls : y.cls = K) (hd : decode cc pc = .ok (.putfield idx, 3)) (ha : hK h a = ci) (kk : GZ Γ Ω y cc nL rt rb (pc + 3) lv st (sJ h a f v) cs) : GZ Γ Ω y cc nL rt rb pc lv (.long v :: .ref a :: st) h cs := G_putF F hl hini hcls hd ha rfl rfl (g_set_J h a f v) kk
theorem G_putFR {v : Option Nat} (F : g_fld ci f 2 K nm ds true ft T N ty) (hft : (∃ n, ft = .object n) ∨ ∃ t, ft = .array t) (hl : Cond.fieldLink y.cls idx K nm ds ∈ g_tb) (hini : y.name = "<init>") (hcls : y.cls = K) (hd : decode cc pc = .ok (.putfield idx, 3)) (ha : hK h a = ci) (kk : GZ Γ Ω y cc nL rt rb (pc + 3) lv st (sR h a f v) cs) : GZ Γ Ω y cc nL rt rb pc lv (va_rf v :: .ref a :: st) h cs := G_putF F hl hini hcls hd ha (by rcases hft with ⟨n, rfl⟩ | ⟨n, rfl⟩ <;> cases v <;> rfl) (by rcases hft with ⟨n, rfl⟩ | ⟨n, rfl⟩ <;> cases v <;> rfl) (g_set_R h a f v) kk
end GH1
def g_nc (x : Int32) : Int32 := x.toUInt32.toUInt16.toUInt32.toInt32
section GH2
variable {Γ : GX} {y : MethodName} {cc : ByteArray} {nL : Nat} {rt : Option FieldType} {rb : GR} {pc : Nat} {lv lv' : List (Option Value)} {st : List Value} {h : PH} {cs : Nat × Nat} {Q : Option Value → PH → Prop} {Ω : List Frame → Array Value → State → State → Prop}
variable {a : Nat} {i x : Int32}
/-- an index within an array -/
abbrev inb (i : Int32) (n : Nat) : Prop := ¬ (i < 0 ∨ n ≤ i.toNatClampNeg)
abbrev ix (i : Int32) : Nat := i.toNatClampNeg
theorem g_arr_put {H H1 : Heap} {kd j : Nat} {x : Int32} (h1 : 11 ≤ kd) (h2 : kd < 14) (hH : g_H Γ h H) (ha : hK h a = kd) (e : H1[a]? = some ((vp_cell (Γ.2.2.2.1 kd) (hN h a, .inl (hI h a))).setSlot j (.int x))) (z : H1.size = H.size) (oq : ∀ q : Nat, q ≠ a → H1[q]? = H[q]?) : g_H Γ (sI h a j x) H1 := by
  refine hH.put (a := a) (by omega) rfl rfl (fun b hb => g_cell_congr rfl rfl (up2_a _ _ _ hb) rfl rfl) ?_ z oq
  rw [g_cell_int (h := sI h a j x) (a := a) ha h1 h2]
  show H1[a]? = some (vp_cell _ _)
  rw [e, vp_cell_i, vp_cell_i, arrV_store]
  congr 2
  funext q
  rw [hI_sI, up2_row]
  by_cases hq : q = j
  · subst hq; simp [updV, va_up]
  · simp [updV, va_up, hq]
theorem g_arrJ_put {H H1 : Heap} {j : Nat} {x : Int64} (hH : g_H Γ h H) (ha : hK h a = 14) (e : H1[a]? = some ((vp_cell (Γ.2.2.2.1 14) (hN h a, .inr (.inl (hJ h a)))).setSlot j (.long x))) (z : H1.size = H.size) (oq : ∀ q : Nat, q ≠ a → H1[q]? = H[q]?) : g_H Γ (sJ h a j x) H1 := by
  refine hH.put (a := a) (by omega) rfl rfl (fun b hb => g_cell_congr rfl rfl rfl (up2_a _ _ _ hb) rfl) ?_ z oq
  rw [g_cell_long (h := sJ h a j x) (a := a) ha]
  show H1[a]? = some (vp_cell _ _)
  rw [e, vp_cell_l, vp_cell_l, arrV_store]
  congr 2
  funext q
  rw [hJ_sJ, up2_row]
  by_cases hq : q = j
  · subst hq; simp [updV, va_up]
  · simp [updV, va_up, hq]
theorem g_arrR_put {H H1 : Heap} {kd j v : Nat} (h1 : 15 ≤ kd) (h2 : kd < 17) (hH : g_H Γ h H) (ha : hK h a = kd) (e : H1[a]? = some ((vp_cell (Γ.2.2.2.1 kd) (hN h a, .inr (.inr (.inr (.inr (hR h a)))))).setSlot j (.ref v))) (z : H1.size = H.size) (oq : ∀ q : Nat, q ≠ a → H1[q]? = H[q]?) : g_H Γ (sR h a j (some v)) H1 := by
  refine hH.put (a := a) (by omega) rfl rfl (fun b hb => g_cell_congr rfl rfl rfl rfl (up2_a _ _ _ hb)) ?_ z oq
  rw [g_cell_ref (h := sR h a j (some v)) (a := a) ha h1]
  show H1[a]? = some (vp_cell _ _)
  rw [e, vp_cell_q, vp_cell_q, arrV_store]
  congr 2
  funext q
  rw [hR_sR, up2_row]
  by_cases hq : q = j
  · subst hq; simp [updV, va_up, va_rf]
  · simp [updV, va_up, hq]
theorem G_iaload (hd : decode cc pc = .ok (.iaload, 1)) (ha : hK h a = 12) (hin : inb i (hN h a)) (kk : GZ Γ Ω y cc nL rt rb (pc + 1) lv (.int (hI h a (ix i)) :: st) h cs) : GZ Γ Ω y cc nL rt rb pc lv (.int i :: .ref a :: st) h cs := by
  intro p e s m args below meth c C ls H locs hlv hH hS
  obtain ⟨k0, hk0⟩ := hH.at (a := a) (by omega)
  rw [g_cell_int ha (by decide) (by decide)] at hk0
  exact va_iald C.1 C.2.1 C.2.2.2.2.2.2.2.2.1 hH.2.2.1 k0 1 hk0 rfl hin hd (kk p e s m args below meth c C ls H locs hlv hH hS)
theorem G_caload (hd : decode cc pc = .ok (.caload, 1)) (ha : hK h a = 11) (hin : inb i (hN h a)) (kk : GZ Γ Ω y cc nL rt rb (pc + 1) lv (.int (hI h a (ix i)) :: st) h cs) : GZ Γ Ω y cc nL rt rb pc lv (.int i :: .ref a :: st) h cs := by
  intro p e s m args below meth c C ls H locs hlv hH hS
  obtain ⟨k0, hk0⟩ := hH.at (a := a) (by omega)
  rw [g_cell_int ha (by decide) (by decide)] at hk0
  exact va_cald C.1 C.2.1 C.2.2.2.2.2.2.2.2.1 hH.2.2.1 k0 0 hk0 rfl hin hd (kk p e s m args below meth c C ls H locs hlv hH hS)
theorem G_zaload (hd : decode cc pc = .ok (.baload, 1)) (ha : hK h a = 13) (hin : inb i (hN h a)) (kk : GZ Γ Ω y cc nL rt rb (pc + 1) lv (.int (hI h a (ix i)) :: st) h cs) : GZ Γ Ω y cc nL rt rb pc lv (.int i :: .ref a :: st) h cs := by
  intro p e s m args below meth c C ls H locs hlv hH hS
  obtain ⟨k0, hk0⟩ := hH.at (a := a) (by omega)
  rw [g_cell_int ha (by decide) (by decide)] at hk0
  exact va_zald C.1 C.2.1 C.2.2.2.2.2.2.2.2.1 hH.2.2.1 k0 2 hk0 rfl hin hd (kk p e s m args below meth c C ls H locs hlv hH hS)
theorem G_laload (hd : decode cc pc = .ok (.laload, 1)) (ha : hK h a = 14) (hin : inb i (hN h a)) (kk : GZ Γ Ω y cc nL rt rb (pc + 1) lv (.long (hJ h a (ix i)) :: st) h cs) : GZ Γ Ω y cc nL rt rb pc lv (.int i :: .ref a :: st) h cs := by
  intro p e s m args below meth c C ls H locs hlv hH hS
  obtain ⟨k0, hk0⟩ := hH.at (a := a) (by omega)
  rw [g_cell_long ha] at hk0
  exact va_lald C.1 C.2.1 C.2.2.2.2.2.2.2.2.1 hH.2.2.1 k0 3 hk0 rfl hin hd (kk p e s m args below meth c C ls H locs hlv hH hS)
theorem G_aaload15 (hd : decode cc pc = .ok (.aaload, 1)) (ha : hK h a = 15) (hin : inb i (hN h a)) (kk : GZ Γ Ω y cc nL rt rb (pc + 1) lv (va_rf (hR h a (ix i)) :: st) h cs) : GZ Γ Ω y cc nL rt rb pc lv (.int i :: .ref a :: st) h cs := by
  intro p e s m args below meth c C ls H locs hlv hH hS
  obtain ⟨k0, hk0⟩ := hH.at (a := a) (by omega)
  rw [g_cell_ref ha (by decide)] at hk0
  exact va_aldq C.1 C.2.1 C.2.2.2.2.2.2.2.2.1 hH.2.2.1 k0 4 hk0 (C := RX2) rfl hin hd (kk p e s m args below meth c C ls H locs hlv hH hS)
theorem G_aastore15 {v : Nat} (hd : decode cc pc = .ok (.aastore, 1)) (ha : hK h a = 15) (hv : hK h v = 2) (hin : inb i (hN h a)) (kk : GZ Γ Ω y cc nL rt rb (pc + 1) lv st (sR h a (ix i) (some v)) cs) : GZ Γ Ω y cc nL rt rb pc lv (.ref v :: .int i :: .ref a :: st) h cs := by
  intro p e s m args below meth c C ls H locs hlv hH hS
  obtain ⟨k0, hk0⟩ := hH.at (a := a) (by omega)
  rw [g_cell_ref ha (by decide)] at hk0
  obtain ⟨k1, hk1⟩ := hH.at (a := v) (by omega)
  rw [g_cell_obj hv (by decide)] at hk1
  have hK := C.2.2.2.2.2.2.2.2.1
  have hlt : i.toNatClampNeg < hN h a := Nat.not_le.mp fun q => hin (Or.inr q)
  have h0 : ¬ i < 0 := fun q => hin (Or.inl q)
  obtain ⟨r', hr', cellV, g1, g2, g3, -⟩ := hH.2.2.1 k1 _ hk1
  have hcls := (hK.1 2 _ rfl).2
  obtain ⟨kA, comp, k1', k2, k3, -⟩ := (hK.2 4 _ rfl).2
  have hcomp : comp = Γ.2.2.1.1 2 := Option.some.inj (k3.symm.trans hcls.1)
  subst hcomp
  obtain ⟨kC, hkC, -⟩ := id hcls.2
  refine W.aast C.1 C.2.1 (hH.2.2.1 k0 _ hk0) (fun q h => by cases h) (fun h => by cases h) k1' k2 rfl hkC ⟨h0, by show _ < (arrV _ _ _).slots.size; rw [arrV_size]; exact hlt⟩ g1 (fun q h => by rw [g3] at h; cases h) (by rw [g2]; exact hkC) (by rw [g2]; exact va_assign hcls) rfl rfl hd fun H1 e1 z oq => ?_
  exact kk p e s m args below meth c C ls H1 _ hlv (g_arrR_put (by decide) (by decide) hH ha e1 z oq) (hS.put z oq (hH.2.1 a (by omega)).1)
theorem G_aaload16 (hd : decode cc pc = .ok (.aaload, 1)) (ha : hK h a = 16) (hin : inb i (hN h a)) (kk : GZ Γ Ω y cc nL rt rb (pc + 1) lv (va_rf (hR h a (ix i)) :: st) h cs) : GZ Γ Ω y cc nL rt rb pc lv (.int i :: .ref a :: st) h cs := by
  intro p e s m args below meth c C ls H locs hlv hH hS
  obtain ⟨k0, hk0⟩ := hH.at (a := a) (by omega)
  rw [g_cell_ref ha (by decide)] at hk0
  exact va_aldq C.1 C.2.1 C.2.2.2.2.2.2.2.2.1 hH.2.2.1 k0 5 hk0 (C := RX4) rfl hin hd (kk p e s m args below meth c C ls H locs hlv hH hS)
theorem G_aastore16 {v : Nat} (hd : decode cc pc = .ok (.aastore, 1)) (ha : hK h a = 16) (hv : hK h v = 4) (hin : inb i (hN h a)) (kk : GZ Γ Ω y cc nL rt rb (pc + 1) lv st (sR h a (ix i) (some v)) cs) : GZ Γ Ω y cc nL rt rb pc lv (.ref v :: .int i :: .ref a :: st) h cs := by
  intro p e s m args below meth c C ls H locs hlv hH hS
  obtain ⟨k0, hk0⟩ := hH.at (a := a) (by omega)
  rw [g_cell_ref ha (by decide)] at hk0
  obtain ⟨k1, hk1⟩ := hH.at (a := v) (by omega)
  rw [g_cell_obj hv (by decide)] at hk1
  have hK := C.2.2.2.2.2.2.2.2.1
  have hlt : i.toNatClampNeg < hN h a := Nat.not_le.mp fun q => hin (Or.inr q)
  have h0 : ¬ i < 0 := fun q => hin (Or.inl q)
  obtain ⟨r', hr', cellV, g1, g2, g3, -⟩ := hH.2.2.1 k1 _ hk1
  have hcls := (hK.1 4 _ rfl).2
  obtain ⟨kA, comp, k1', k2, k3, -⟩ := (hK.2 5 _ rfl).2
  have hcomp : comp = Γ.2.2.1.1 4 := Option.some.inj (k3.symm.trans hcls.1)
  subst hcomp
  obtain ⟨kC, hkC, -⟩ := id hcls.2
  refine W.aast C.1 C.2.1 (hH.2.2.1 k0 _ hk0) (fun q h => by cases h) (fun h => by cases h) k1' k2 rfl hkC ⟨h0, by show _ < (arrV _ _ _).slots.size; rw [arrV_size]; exact hlt⟩ g1 (fun q h => by rw [g3] at h; cases h) (by rw [g2]; exact hkC) (by rw [g2]; exact va_assign hcls) rfl rfl hd fun H1 e1 z oq => ?_
  exact kk p e s m args below meth c C ls H1 _ hlv (g_arrR_put (by decide) (by decide) hH ha e1 z oq) (hS.put z oq (hH.2.1 a (by omega)).1)
theorem G_iastore (hd : decode cc pc = .ok (.iastore, 1)) (ha : hK h a = 12) (hin : inb i (hN h a)) (kk : GZ Γ Ω y cc nL rt rb (pc + 1) lv st (sI h a (ix i) x) cs) : GZ Γ Ω y cc nL rt rb pc lv (.int x :: .int i :: .ref a :: st) h cs := by
  intro p e s m args below meth c C ls H locs hlv hH hS
  obtain ⟨k0, hk0⟩ := hH.at (a := a) (by omega)
  rw [g_cell_int ha (by decide) (by decide)] at hk0
  refine W.iast C.1 C.2.1 (hH.2.2.1 k0 _ hk0) ((C.2.2.2.2.2.2.2.2.1.2 1 _ rfl).1 (hN h a) (fun j => .int (hI h a j))) (fun q => by cases q) (by show ¬ (i < 0 ∨ (arrV _ _ _).slots.size ≤ _); rw [arrV_size]; exact hin) rfl rfl hd fun H1 e1 z oq => ?_
  exact kk p e s m args below meth c C ls H1 _ hlv (g_arr_put (by decide) (by decide) hH ha e1 z oq) (hS.put z oq (hH.2.1 a (by omega)).1)
theorem G_castore (hd : decode cc pc = .ok (.castore, 1)) (ha : hK h a = 11) (hin : inb i (hN h a)) (kk : GZ Γ Ω y cc nL rt rb (pc + 1) lv st (sI h a (ix i) (g_nc x)) cs) : GZ Γ Ω y cc nL rt rb pc lv (.int x :: .int i :: .ref a :: st) h cs := by
  intro p e s m args below meth c C ls H locs hlv hH hS
  obtain ⟨k0, hk0⟩ := hH.at (a := a) (by omega)
  rw [g_cell_int ha (by decide) (by decide)] at hk0
  refine W.cast C.1 C.2.1 (hH.2.2.1 k0 _ hk0) ((C.2.2.2.2.2.2.2.2.1.2 0 _ rfl).1 (hN h a) (fun j => .int (hI h a j))) (fun q => by cases q) (by show ¬ (i < 0 ∨ (arrV _ _ _).slots.size ≤ _); rw [arrV_size]; exact hin) rfl rfl hd fun H1 e1 z oq => ?_
  exact kk p e s m args below meth c C ls H1 _ hlv (g_arr_put (by decide) (by decide) hH ha e1 z oq) (hS.put z oq (hH.2.1 a (by omega)).1)
theorem G_zastore (hd : decode cc pc = .ok (.bastore, 1)) (ha : hK h a = 13) (hin : inb i (hN h a)) (kk : GZ Γ Ω y cc nL rt rb (pc + 1) lv st (sI h a (ix i) (x &&& 1)) cs) : GZ Γ Ω y cc nL rt rb pc lv (.int x :: .int i :: .ref a :: st) h cs := by
  intro p e s m args below meth c C ls H locs hlv hH hS
  obtain ⟨k0, hk0⟩ := hH.at (a := a) (by omega)
  rw [g_cell_int ha (by decide) (by decide)] at hk0
  refine W.zast C.1 C.2.1 (hH.2.2.1 k0 _ hk0) ((C.2.2.2.2.2.2.2.2.1.2 2 _ rfl).1 (hN h a) (fun j => .int (hI h a j))) (fun q => by cases q) (by show ¬ (i < 0 ∨ (arrV _ _ _).slots.size ≤ _); rw [arrV_size]; exact hin) rfl rfl hd fun H1 e1 z oq => ?_
  exact kk p e s m args below meth c C ls H1 _ hlv (g_arr_put (by decide) (by decide) hH ha e1 z oq) (hS.put z oq (hH.2.1 a (by omega)).1)
theorem G_lastore {x : Int64} (hd : decode cc pc = .ok (.lastore, 1)) (ha : hK h a = 14) (hin : inb i (hN h a)) (kk : GZ Γ Ω y cc nL rt rb (pc + 1) lv st (sJ h a (ix i) x) cs) : GZ Γ Ω y cc nL rt rb pc lv (.long x :: .int i :: .ref a :: st) h cs := by
  intro p e s m args below meth c C ls H locs hlv hH hS
  obtain ⟨k0, hk0⟩ := hH.at (a := a) (by omega)
  rw [g_cell_long ha] at hk0
  refine W.last C.1 C.2.1 (hH.2.2.1 k0 _ hk0) ((C.2.2.2.2.2.2.2.2.1.2 3 _ rfl).1 (hN h a) (fun j => .long (hJ h a j))) (fun q => by cases q) (by show ¬ (i < 0 ∨ (arrV _ _ _).slots.size ≤ _); rw [arrV_size]; exact hin) rfl rfl hd fun H1 e1 z oq => ?_
  exact kk p e s m args below meth c C ls H1 _ hlv (g_arrJ_put hH ha e1 z oq) (hS.put z oq (hH.2.1 a (by omega)).1)
theorem G_alen11 (hd : decode cc pc = .ok (.arraylength, 1)) (ha : hK h a = 11) (kk : GZ Γ Ω y cc nL rt rb (pc + 1) lv (.int (nI (hN h a)) :: st) h cs) : GZ Γ Ω y cc nL rt rb pc lv (.ref a :: st) h cs := by
  intro p e s m args below meth c C ls H locs hlv hH hS
  obtain ⟨k0, hk0⟩ := hH.at (a := a) (by omega)
  rw [g_cell_int ha (by decide) (by decide)] at hk0
  exact va_alen C.1 C.2.1 C.2.2.2.2.2.2.2.2.1 hH.2.2.1 k0 0 hk0 rfl rfl hd (kk p e s m args below meth c C ls H locs hlv hH hS)
theorem G_alen12 (hd : decode cc pc = .ok (.arraylength, 1)) (ha : hK h a = 12) (kk : GZ Γ Ω y cc nL rt rb (pc + 1) lv (.int (nI (hN h a)) :: st) h cs) : GZ Γ Ω y cc nL rt rb pc lv (.ref a :: st) h cs := by
  intro p e s m args below meth c C ls H locs hlv hH hS
  obtain ⟨k0, hk0⟩ := hH.at (a := a) (by omega)
  rw [g_cell_int ha (by decide) (by decide)] at hk0
  exact va_alen C.1 C.2.1 C.2.2.2.2.2.2.2.2.1 hH.2.2.1 k0 1 hk0 rfl rfl hd (kk p e s m args below meth c C ls H locs hlv hH hS)
theorem G_alen13 (hd : decode cc pc = .ok (.arraylength, 1)) (ha : hK h a = 13) (kk : GZ Γ Ω y cc nL rt rb (pc + 1) lv (.int (nI (hN h a)) :: st) h cs) : GZ Γ Ω y cc nL rt rb pc lv (.ref a :: st) h cs := by
  intro p e s m args below meth c C ls H locs hlv hH hS
  obtain ⟨k0, hk0⟩ := hH.at (a := a) (by omega)
  rw [g_cell_int ha (by decide) (by decide)] at hk0
  exact va_alen C.1 C.2.1 C.2.2.2.2.2.2.2.2.1 hH.2.2.1 k0 2 hk0 rfl rfl hd (kk p e s m args below meth c C ls H locs hlv hH hS)
end GH2
def g_df (t : Nat) : Value := match t with
  | 0 => .int 0
  | 1 => .long 0
  | _ => .null
theorem g_fs_new (h : PH) (kd len : Nat) (ts : List Nat) : g_fs (nwh h kd len) (hz h) ts = ts.map g_df := by
  apply List.ext_getElem?
  intro j
  cases hj : ts[j]? with
  | none =>
    have hl : ts.length ≤ j := by simpa using hj
    rw [List.getElem?_eq_none (by rw [g_fs_len]; exact hl), List.getElem?_eq_none (by simpa using hl)]
  | some t =>
    rw [g_fs_get hj, List.getElem?_map, hj]
    show some (g_fv _ _ _ _) = some (g_df t)
    congr 1
    have e1 : hI (nwh h kd len) (hz h) j = 0 := congrFun (va_up_self (hI h) (hz h) (fun _ => 0)) j
    have e2 : hJ (nwh h kd len) (hz h) j = 0 := congrFun (va_up_self (hJ h) (hz h) (fun _ => 0)) j
    have e3 : hR (nwh h kd len) (hz h) j = none := congrFun (va_up_self (hR h) (hz h) (fun _ => none)) j
    match t with
    | 0 => show Value.int _ = _; rw [e1]; rfl
    | 1 => show Value.long _ = _; rw [e2]; rfl
    | n + 2 => show va_rf _ = _; rw [e3]; rfl
theorem nwh_K (h : PH) (kd len : Nat) : hK (nwh h kd len) (hz h) = kd := va_up_self _ _ _
theorem nwh_N (h : PH) (kd len : Nat) : hN (nwh h kd len) (hz h) = len := va_up_self _ _ _
theorem nwh_I (h : PH) (kd len : Nat) : hI (nwh h kd len) (hz h) = fun _ => 0 := va_up_self _ _ _
theorem nwh_J (h : PH) (kd len : Nat) : hJ (nwh h kd len) (hz h) = fun _ => 0 := va_up_self _ _ _
theorem nwh_R (h : PH) (kd len : Nat) : hR (nwh h kd len) (hz h) = fun _ => none := va_up_self _ _ _
/-- a class whose objects can be made -/
def g_cls (ci : Nat) (K : String) (T : u_T) (N : Nat) (ty : Nat → FieldType) : Prop :=
  vwCl[ci]? = some (K, T, N) ∧ ci < 11 ∧ (∀ k, k < N → parseFieldDescriptor (T k).2.2.1 = some (ty k)) ∧ (∀ w ∈ u_ws K T N, w ∈ g_tb) ∧ (∀ j, j < N → defaultValue (ty j) = vp_V ((g_ty ci).map g_df) j) ∧ Cond.instantiable K N ∈ g_tb ∧ Cond.initialized K ∈ g_tb
section GH3
variable {Γ : GX} {y : MethodName} {cc : ByteArray} {nL : Nat} {rt : Option FieldType} {rb : GR} {pc : Nat} {lv lv' : List (Option Value)} {st : List Value} {h : PH} {cs : Nat × Nat} {Q : Option Value → PH → Prop} {Ω : List Frame → Array Value → State → State → Prop}
variable {a : Nat} {i x : Int32}
theorem g_S_new {s : State} {H H1 : Heap} {locs : List Loc} (hS : va_S (g_A Γ) s.heap H locs) (z : H1.size = H.size + 1) (oq : ∀ q : Nat, q < H.size → H1[q]? = H[q]?) : va_S (g_A Γ) s.heap H1 locs :=
  ⟨by rw [z]; exact Nat.le_trans hS.1 (Nat.le_succ _), fun q g1 g2 => (oq q (Nat.lt_of_lt_of_le g1 hS.1)).trans (hS.2.1 q g1 g2), hS.2.2⟩
theorem G_new {ci idx N : Nat} {K : String} {T : u_T} {ty : Nat → FieldType} (F : g_cls ci K T N ty) (hl : Cond.classLink y.cls idx K ∈ g_tb) (hd : decode cc pc = .ok (.new idx, 3)) (h1 : cs.1 + 1 ≤ rb.2.1) (h2 : cs.2 + N ≤ rb.2.2) (kk : GZ Γ Ω y cc nL rt rb (pc + 3) lv (.ref (hz h) :: st) (nwh h ci 0) (cs.1 + 1, cs.2 + N)) : GZ Γ Ω y cc nL rt rb pc lv st h cs := by
  intro p e s m args below meth c C ls H locs hlv hH hS
  obtain ⟨f1, f2, f3, f4, f5, f6, f7⟩ := F
  have hts := C.2.2.2.2.1
  have hKn := C.2.2.2.2.2.2.2.2.1.1 ci _ f1
  refine W.newcK C.1 C.2.1 C.2.2.2.2.2.1 (hts _ hl) (hts _ f6) (hts _ f7) rfl hd h1 h2 hKn.2.1 hH.1 fun H1 kC hkC e1 z1 o1 => ?_
  refine kk p e s m args below meth c C ls H1 locs hlv (hH.new (Nat.le_trans (Nat.le_trans C.2.2.2.2.2.2.2.2.2.2.2 hS.1) (Nat.le_of_eq hH.1)) (by omega) ?_ (by rw [z1, hH.1]) (fun q hq => o1 q (by rw [← hH.1]; exact hq))) (g_S_new hS (by rw [z1, hH.1]) (fun q hq => o1 q (by rw [← hH.1]; exact hq)))
  rw [g_cell_obj (nwh_K h ci 0) f2, g_fs_new]
  exact ⟨_, f1, (u_born ty hts f4 hKn hkC e1 f3).to f5⟩
theorem G_newarray11 {n : Nat} (hd : decode cc pc = .ok (.newarray .char, 2)) (hw : Cond.arrayClass .char ∈ g_tb) (hn : ¬ i < 0) (hN : i.toNatClampNeg = n) (hb : n * 8 ≤ 536870912) (h1 : cs.1 + 1 ≤ rb.2.1) (h2 : cs.2 + n ≤ rb.2.2) (kk : GZ Γ Ω y cc nL rt rb (pc + 2) lv (.ref (hz h) :: st) (nwh h 11 n) (cs.1 + 1, cs.2 + n)) : GZ Γ Ω y cc nL rt rb pc lv (.int i :: st) h cs := by
  intro p e s m args below meth c C ls H locs hlv hH hS
  refine va_newaK C.1 C.2.1 (atype := .char) (C.2.2.2.2.1 _ hw) rfl hd rfl hn hN (Nat.le_trans (Nat.mul_le_mul_left _ (by decide)) hb) h1 h2 hH.1 fun H1 cA e1 z1 o1 hAr hNm => ?_
  have hcA : cA = Γ.2.2.2.1 11 := Option.some.inj (hNm.symm.trans (C.2.2.2.2.2.2.2.2.1.2 0 _ rfl).2)
  subst hcA
  refine kk p e s m args below meth c C ls H1 locs hlv (hH.new (Nat.le_trans (Nat.le_trans C.2.2.2.2.2.2.2.2.2.2.2 hS.1) (Nat.le_of_eq hH.1)) (by omega) ?_ (by rw [z1, hH.1]) (fun q hq => o1 q (by rw [← hH.1]; exact hq))) (g_S_new hS (by rw [z1, hH.1]) (fun q hq => o1 q (by rw [← hH.1]; exact hq)))
  rw [g_cell_int (nwh_K h 11 n) (by decide) (by decide)]
  show H1[hz h]? = some (vp_cell _ _)
  rw [vp_cell_i, nwh_N, nwh_I]
  exact e1
theorem G_newarray12 {n : Nat} (hd : decode cc pc = .ok (.newarray .int, 2)) (hw : Cond.arrayClass .int ∈ g_tb) (hn : ¬ i < 0) (hN : i.toNatClampNeg = n) (hb : n * 8 ≤ 536870912) (h1 : cs.1 + 1 ≤ rb.2.1) (h2 : cs.2 + n ≤ rb.2.2) (kk : GZ Γ Ω y cc nL rt rb (pc + 2) lv (.ref (hz h) :: st) (nwh h 12 n) (cs.1 + 1, cs.2 + n)) : GZ Γ Ω y cc nL rt rb pc lv (.int i :: st) h cs := by
  intro p e s m args below meth c C ls H locs hlv hH hS
  refine va_newaK C.1 C.2.1 (atype := .int) (C.2.2.2.2.1 _ hw) rfl hd rfl hn hN (Nat.le_trans (Nat.mul_le_mul_left _ (by decide)) hb) h1 h2 hH.1 fun H1 cA e1 z1 o1 hAr hNm => ?_
  have hcA : cA = Γ.2.2.2.1 12 := Option.some.inj (hNm.symm.trans (C.2.2.2.2.2.2.2.2.1.2 1 _ rfl).2)
  subst hcA
  refine kk p e s m args below meth c C ls H1 locs hlv (hH.new (Nat.le_trans (Nat.le_trans C.2.2.2.2.2.2.2.2.2.2.2 hS.1) (Nat.le_of_eq hH.1)) (by omega) ?_ (by rw [z1, hH.1]) (fun q hq => o1 q (by rw [← hH.1]; exact hq))) (g_S_new hS (by rw [z1, hH.1]) (fun q hq => o1 q (by rw [← hH.1]; exact hq)))
  rw [g_cell_int (nwh_K h 12 n) (by decide) (by decide)]
  show H1[hz h]? = some (vp_cell _ _)
  rw [vp_cell_i, nwh_N, nwh_I]
  exact e1
theorem G_newarray13 {n : Nat} (hd : decode cc pc = .ok (.newarray .boolean, 2)) (hw : Cond.arrayClass .boolean ∈ g_tb) (hn : ¬ i < 0) (hN : i.toNatClampNeg = n) (hb : n * 8 ≤ 536870912) (h1 : cs.1 + 1 ≤ rb.2.1) (h2 : cs.2 + n ≤ rb.2.2) (kk : GZ Γ Ω y cc nL rt rb (pc + 2) lv (.ref (hz h) :: st) (nwh h 13 n) (cs.1 + 1, cs.2 + n)) : GZ Γ Ω y cc nL rt rb pc lv (.int i :: st) h cs := by
  intro p e s m args below meth c C ls H locs hlv hH hS
  refine va_newaK C.1 C.2.1 (atype := .boolean) (C.2.2.2.2.1 _ hw) rfl hd rfl hn hN (Nat.le_trans (Nat.mul_le_mul_left _ (by decide)) hb) h1 h2 hH.1 fun H1 cA e1 z1 o1 hAr hNm => ?_
  have hcA : cA = Γ.2.2.2.1 13 := Option.some.inj (hNm.symm.trans (C.2.2.2.2.2.2.2.2.1.2 2 _ rfl).2)
  subst hcA
  refine kk p e s m args below meth c C ls H1 locs hlv (hH.new (Nat.le_trans (Nat.le_trans C.2.2.2.2.2.2.2.2.2.2.2 hS.1) (Nat.le_of_eq hH.1)) (by omega) ?_ (by rw [z1, hH.1]) (fun q hq => o1 q (by rw [← hH.1]; exact hq))) (g_S_new hS (by rw [z1, hH.1]) (fun q hq => o1 q (by rw [← hH.1]; exact hq)))
  rw [g_cell_int (nwh_K h 13 n) (by decide) (by decide)]
  show H1[hz h]? = some (vp_cell _ _)
  rw [vp_cell_i, nwh_N, nwh_I]
  exact e1
theorem G_newarray14 {n : Nat} (hd : decode cc pc = .ok (.newarray .long, 2)) (hw : Cond.arrayClass .long ∈ g_tb) (hn : ¬ i < 0) (hN : i.toNatClampNeg = n) (hb : n * 8 ≤ 536870912) (h1 : cs.1 + 1 ≤ rb.2.1) (h2 : cs.2 + n ≤ rb.2.2) (kk : GZ Γ Ω y cc nL rt rb (pc + 2) lv (.ref (hz h) :: st) (nwh h 14 n) (cs.1 + 1, cs.2 + n)) : GZ Γ Ω y cc nL rt rb pc lv (.int i :: st) h cs := by
  intro p e s m args below meth c C ls H locs hlv hH hS
  refine va_newaK C.1 C.2.1 (atype := .long) (C.2.2.2.2.1 _ hw) rfl hd rfl hn hN (Nat.le_trans (Nat.mul_le_mul_left _ (by decide)) hb) h1 h2 hH.1 fun H1 cA e1 z1 o1 hAr hNm => ?_
  have hcA : cA = Γ.2.2.2.1 14 := Option.some.inj (hNm.symm.trans (C.2.2.2.2.2.2.2.2.1.2 3 _ rfl).2)
  subst hcA
  refine kk p e s m args below meth c C ls H1 locs hlv (hH.new (Nat.le_trans (Nat.le_trans C.2.2.2.2.2.2.2.2.2.2.2 hS.1) (Nat.le_of_eq hH.1)) (by omega) ?_ (by rw [z1, hH.1]) (fun q hq => o1 q (by rw [← hH.1]; exact hq))) (g_S_new hS (by rw [z1, hH.1]) (fun q hq => o1 q (by rw [← hH.1]; exact hq)))
  rw [g_cell_long (nwh_K h 14 n)]
  show H1[hz h]? = some (vp_cell _ _)
  rw [vp_cell_l, nwh_N, nwh_J]
  exact e1
theorem G_anewarray15 {n idx : Nat} (hd : decode cc pc = .ok (.anewarray idx, 3)) (hl : Cond.classLink y.cls idx RX2 ∈ g_tb) (hw : Cond.arrayOver (.object RX2) ∈ g_tb) (hn : ¬ i < 0) (hN : i.toNatClampNeg = n) (hb : n * 4 ≤ 536870912) (h1 : cs.1 + 1 ≤ rb.2.1) (h2 : cs.2 + n ≤ rb.2.2) (kk : GZ Γ Ω y cc nL rt rb (pc + 3) lv (.ref (hz h) :: st) (nwh h 15 n) (cs.1 + 1, cs.2 + n)) : GZ Γ Ω y cc nL rt rb pc lv (.int i :: st) h cs := by
  intro p e s m args below meth c C ls H locs hlv hH hS
  subst hN
  refine W.anew C.1 C.2.1 C.2.2.2.2.2.1 (C.2.2.2.2.1 _ hl) (C.2.2.2.2.1 _ hw) rfl hd rfl hn hb h1 h2 fun cA kA comp f1 f2 f3 f4 => ?_
  obtain ⟨kA2, comp2, -, -, -, hNm⟩ := (C.2.2.2.2.2.2.2.2.1.2 4 _ rfl).2
  have hcA : cA = Γ.2.2.2.1 15 := Option.some.inj (f1.symm.trans hNm)
  subst hcA
  generalize hH1 : H.push ({ cls := Γ.2.2.2.1 15, slots := Array.replicate i.toNatClampNeg .null, vm := .none } : Cell) = H1
  have z1 : H1.size = H.size + 1 := by rw [← hH1, Array.size_push]
  have e1 : H1[H.size]? = some (arrV (Γ.2.2.2.1 15) i.toNatClampNeg (fun _ => .null)) := by rw [← hH1, Array.getElem?_push_size, ← arrV_new]
  have o1 : ∀ q : Nat, q < H.size → H1[q]? = H[q]? := fun q hq => by rw [← hH1, Array.getElem?_push, if_neg (Nat.ne_of_lt hq)]
  rw [hH.1] at e1 ⊢
  refine kk p e s m args below meth c C ls H1 locs hlv (hH.new (Nat.le_trans (Nat.le_trans C.2.2.2.2.2.2.2.2.2.2.2 hS.1) (Nat.le_of_eq hH.1)) (by omega) ?_ z1 o1) (g_S_new hS z1 o1)
  rw [g_cell_ref (nwh_K h 15 _) (by decide)]
  show H1[hz h]? = some (vp_cell _ _)
  rw [vp_cell_q, nwh_N, nwh_R]
  exact e1
theorem G_anewarray16 {n idx : Nat} (hd : decode cc pc = .ok (.anewarray idx, 3)) (hl : Cond.classLink y.cls idx RX4 ∈ g_tb) (hw : Cond.arrayOver (.object RX4) ∈ g_tb) (hn : ¬ i < 0) (hN : i.toNatClampNeg = n) (hb : n * 4 ≤ 536870912) (h1 : cs.1 + 1 ≤ rb.2.1) (h2 : cs.2 + n ≤ rb.2.2) (kk : GZ Γ Ω y cc nL rt rb (pc + 3) lv (.ref (hz h) :: st) (nwh h 16 n) (cs.1 + 1, cs.2 + n)) : GZ Γ Ω y cc nL rt rb pc lv (.int i :: st) h cs := by
  intro p e s m args below meth c C ls H locs hlv hH hS
  subst hN
  refine W.anew C.1 C.2.1 C.2.2.2.2.2.1 (C.2.2.2.2.1 _ hl) (C.2.2.2.2.1 _ hw) rfl hd rfl hn hb h1 h2 fun cA kA comp f1 f2 f3 f4 => ?_
  obtain ⟨kA2, comp2, -, -, -, hNm⟩ := (C.2.2.2.2.2.2.2.2.1.2 5 _ rfl).2
  have hcA : cA = Γ.2.2.2.1 16 := Option.some.inj (f1.symm.trans hNm)
  subst hcA
  generalize hH1 : H.push ({ cls := Γ.2.2.2.1 16, slots := Array.replicate i.toNatClampNeg .null, vm := .none } : Cell) = H1
  have z1 : H1.size = H.size + 1 := by rw [← hH1, Array.size_push]
  have e1 : H1[H.size]? = some (arrV (Γ.2.2.2.1 16) i.toNatClampNeg (fun _ => .null)) := by rw [← hH1, Array.getElem?_push_size, ← arrV_new]
  have o1 : ∀ q : Nat, q < H.size → H1[q]? = H[q]? := fun q hq => by rw [← hH1, Array.getElem?_push, if_neg (Nat.ne_of_lt hq)]
  rw [hH.1] at e1 ⊢
  refine kk p e s m args below meth c C ls H1 locs hlv (hH.new (Nat.le_trans (Nat.le_trans C.2.2.2.2.2.2.2.2.2.2.2 hS.1) (Nat.le_of_eq hH.1)) (by omega) ?_ z1 o1) (g_S_new hS z1 o1)
  rw [g_cell_ref (nwh_K h 16 _) (by decide)]
  show H1[hz h]? = some (vp_cell _ _)
  rw [vp_cell_q, nwh_N, nwh_R]
  exact e1
end GH3
