/-! The rules of G for calls. -/
/-- what comes back: an int, a long, a reference or null, nothing -/
def q_i (Q : Int32 → PH → Prop) : Option Value → PH → Prop := fun v h => ∃ r : Int32, v = some (.int r) ∧ Q r h
def q_l (Q : Int64 → PH → Prop) : Option Value → PH → Prop := fun v h => ∃ r : Int64, v = some (.long r) ∧ Q r h
def q_r (Q : Option Nat → PH → Prop) : Option Value → PH → Prop := fun v h => ∃ r : Option Nat, v = some (va_rf r) ∧ Q r h
def q_v (Q : PH → Prop) : Option Value → PH → Prop := fun v h => v = none ∧ Q h
section GC
variable {Γ : GX} {y : MethodName} {cc : ByteArray} {nL : Nat} {rt : Option FieldType} {rb : GR} {pc : Nat} {lv lv' : List (Option Value)} {st st0 : List Value} {h : PH} {cs : Nat × Nat} {Q : Option Value → PH → Prop} {Ω : List Frame → Array Value → State → State → Prop}
variable {y2 : MethodName} {cc2 : ByteArray} {nL2 : Nat} {rt2 : Option FieldType} {rb2 : GR} {Q2 : Option Value → PH → Prop} {As : List Value} {n idx ci b : Nat} {host K : String} {T : u_T} {N : Nat}
theorem g_rest {m : MethodId} {ls : Array Slot} (hw : (st.map fun v => v.category).sum ≤ 8) : 2 * (F0 m pc ls st0).monitorRoom + (st.map fun v => v.category).sum ≤ 8 := by
  show 2 * 0 + _ ≤ 8
  omega
theorem G_callV (S2 : Spec Γ y2 cc2 nL2 rt2 rb2 (.ref b :: As) h Q2) (hc : g_cal y2 cc2 nL2 rt2 n) (hi : Cond.instanceMethod y2 ∈ g_tb) (hsel : Cond.selects K y2 y2 ∈ g_tb) (hcl : vwCl[ci]? = some (K, T, N)) (hci : ci < 11) (hl2 : Cond.methodLink y.cls idx y2 ∈ g_tb) (hb : hK h b = ci) (hd2 : rb2.1 + 1 ≤ rb.1) (hm : nL2 ≤ 45) (hn : As.length = n) (hw : (st.map fun v => v.category).sum ≤ 8) (h1 : cs.1 + rb2.2.1 ≤ rb.2.1) (h2 : cs.2 + rb2.2.2 ≤ rb.2.2) (hd : decode cc pc = .ok (.invokevirtual idx, 3)) (hst : st0 = As.reverse ++ .ref b :: st) (kk : ∀ (v : Option Value) (h1 : PH), Q2 v h1 → GZ Γ Ω y cc nL rt rb (pc + 3) lv (v.toList ++ st) h1 (cs.1 + rb2.2.1, cs.2 + rb2.2.2)) : GZ Γ Ω y cc nL rt rb pc lv st0 h cs := by
  intro p e s m args below meth c C ls H locs hl hH hS
  refine g_call (va_runV (As := As) (rest := st) (b := b) (C := K) (n := n) ⟨C.1, C.2.1, C.2.2.2.1, C.2.2.2.2.2.1, C.2.2.2.2.1⟩ S2 ⟨g_calB C hc hd2 hm hl2, C.2.2.2.2.1 _ hi, C.2.2.2.2.1 _ hsel⟩ ⟨g_blind _, g_recv C hH hcl hci hb, fun U hU hW => ⟨rfl, World.of C hH hS hU hW⟩⟩ rfl hn hl.1 hst (g_rest hw) hd ⟨h1, h2⟩) hS fun v h1' H1 locs1 hq hH1 hS1 => ?_
  exact kk v h1' hq p e s m args below meth c C ls H1 locs1 hl hH1 hS1
theorem G_callS (S2 : Spec Γ y2 cc2 nL2 rt2 rb2 As h Q2) (hc : g_cal y2 cc2 nL2 rt2 n) (hi : Cond.static y2 ∈ g_tb) (hl2 : Cond.methodLink y.cls idx y2 ∈ g_tb) (hd2 : rb2.1 + 1 ≤ rb.1) (hm : nL2 ≤ 45) (hn : As.length = n) (hw : (st.map fun v => v.category).sum ≤ 8) (h1 : cs.1 + rb2.2.1 ≤ rb.2.1) (h2 : cs.2 + rb2.2.2 ≤ rb.2.2) (hd : decode cc pc = .ok (.invokestatic idx, 3)) (hst : st0 = As.reverse ++ st) (kk : ∀ (v : Option Value) (h1 : PH), Q2 v h1 → GZ Γ Ω y cc nL rt rb (pc + 3) lv (v.toList ++ st) h1 (cs.1 + rb2.2.1, cs.2 + rb2.2.2)) : GZ Γ Ω y cc nL rt rb pc lv st0 h cs := by
  intro p e s m args below meth c C ls H locs hl hH hS
  refine g_call (va_runS (As := As) (rest := st) (n := n) ⟨C.1, C.2.1, C.2.2.2.1, C.2.2.2.2.2.1, C.2.2.2.2.1⟩ S2 ⟨g_calB C hc hd2 hm hl2, C.2.2.2.2.1 _ hi⟩ ⟨g_blind _, fun U hU hW => ⟨rfl, World.of C hH hS hU hW⟩⟩ rfl hn hl.1 hst (g_rest hw) hd ⟨h1, h2⟩) hS fun v h1' H1 locs1 hq hH1 hS1 => ?_
  exact kk v h1' hq p e s m args below meth c C ls H1 locs1 hl hH1 hS1
theorem G_callI (S2 : Spec Γ y2 cc2 nL2 none rb2 (.ref b :: As) h Q2) (hc : g_cal y2 cc2 nL2 none n) (hini : y2.name = "<init>") (hi : Cond.instanceMethod y2 ∈ g_tb) (hl2 : Cond.methodLink y.cls idx y2 ∈ g_tb) (hd2 : rb2.1 + 1 ≤ rb.1) (hm : nL2 ≤ 45) (hn : As.length = n) (hw : (st.map fun v => v.category).sum ≤ 8) (h1 : cs.1 + rb2.2.1 ≤ rb.2.1) (h2 : cs.2 + rb2.2.2 ≤ rb.2.2) (hd : decode cc pc = .ok (.invokespecial idx, 3)) (hst : st0 = As.reverse ++ .ref b :: st) (kk : ∀ (v : Option Value) (h1 : PH), Q2 v h1 → GZ Γ Ω y cc nL rt rb (pc + 3) lv (v.toList ++ st) h1 (cs.1 + rb2.2.1, cs.2 + rb2.2.2)) : GZ Γ Ω y cc nL rt rb pc lv st0 h cs := by
  intro p e s m args below meth c C ls H locs hl hH hS
  refine g_call (va_runI (As := As) (rest := st) (b := b) (n := n) ⟨C.1, C.2.1, C.2.2.2.1, C.2.2.2.2.2.1, C.2.2.2.2.1⟩ S2 ⟨g_calB C hc hd2 hm hl2, hini, C.2.2.2.2.1 _ hi⟩ ⟨g_blind _, fun U hU hW => ⟨rfl, World.of C hH hS hU hW⟩⟩ rfl hn hl.1 hst (g_rest hw) hd ⟨h1, h2⟩) hS fun v h1' H1 locs1 hq hH1 hS1 => ?_
  exact kk v h1' hq p e s m args below meth c C ls H1 locs1 hl hH1 hS1
theorem G_callVN (S2 : Spec Γ y2 cc2 nL2 rt2 rb2 (.ref b :: As) h Q2) (hc : g_cal y2 cc2 nL2 rt2 n) (hi : Cond.instanceMethod y2 ∈ g_tb) (hsel : Cond.selects K y2 y2 ∈ g_tb) (hcl : vwCl[ci]? = some (K, T, N)) (hci : ci < 11) (hl2 : Cond.methodLinkNest y.cls idx y2 host ∈ g_tb) (hb : hK h b = ci) (hd2 : rb2.1 + 1 ≤ rb.1) (hm : nL2 ≤ 45) (hn : As.length = n) (hw : (st.map fun v => v.category).sum ≤ 8) (h1 : cs.1 + rb2.2.1 ≤ rb.2.1) (h2 : cs.2 + rb2.2.2 ≤ rb.2.2) (hd : decode cc pc = .ok (.invokevirtual idx, 3)) (hst : st0 = As.reverse ++ .ref b :: st) (kk : ∀ (v : Option Value) (h1 : PH), Q2 v h1 → GZ Γ Ω y cc nL rt rb (pc + 3) lv (v.toList ++ st) h1 (cs.1 + rb2.2.1, cs.2 + rb2.2.2)) : GZ Γ Ω y cc nL rt rb pc lv st0 h cs := by
  intro p e s m args below meth c C ls H locs hl hH hS
  refine g_call (va_runVN (As := As) (rest := st) (b := b) (C := K) (n := n) (host := host) ⟨C.1, C.2.1, C.2.2.2.1, C.2.2.2.2.2.1, C.2.2.2.2.1⟩ S2 ⟨g_calN C hc hd2 hm hl2, C.2.2.2.2.1 _ hi, C.2.2.2.2.1 _ hsel⟩ ⟨g_blind _, g_recv C hH hcl hci hb, fun U hU hW => ⟨rfl, World.of C hH hS hU hW⟩⟩ rfl hn hl.1 hst (g_rest hw) hd ⟨h1, h2⟩) hS fun v h1' H1 locs1 hq hH1 hS1 => ?_
  exact kk v h1' hq p e s m args below meth c C ls H1 locs1 hl hH1 hS1
theorem G_callSN (S2 : Spec Γ y2 cc2 nL2 rt2 rb2 As h Q2) (hc : g_cal y2 cc2 nL2 rt2 n) (hi : Cond.static y2 ∈ g_tb) (hl2 : Cond.methodLinkNest y.cls idx y2 host ∈ g_tb) (hd2 : rb2.1 + 1 ≤ rb.1) (hm : nL2 ≤ 45) (hn : As.length = n) (hw : (st.map fun v => v.category).sum ≤ 8) (h1 : cs.1 + rb2.2.1 ≤ rb.2.1) (h2 : cs.2 + rb2.2.2 ≤ rb.2.2) (hd : decode cc pc = .ok (.invokestatic idx, 3)) (hst : st0 = As.reverse ++ st) (kk : ∀ (v : Option Value) (h1 : PH), Q2 v h1 → GZ Γ Ω y cc nL rt rb (pc + 3) lv (v.toList ++ st) h1 (cs.1 + rb2.2.1, cs.2 + rb2.2.2)) : GZ Γ Ω y cc nL rt rb pc lv st0 h cs := by
  intro p e s m args below meth c C ls H locs hl hH hS
  refine g_call (va_runSN (As := As) (rest := st) (n := n) (host := host) ⟨C.1, C.2.1, C.2.2.2.1, C.2.2.2.2.2.1, C.2.2.2.2.1⟩ S2 ⟨g_calN C hc hd2 hm hl2, C.2.2.2.2.1 _ hi, trivial⟩ ⟨g_blind _, fun U hU hW => ⟨rfl, World.of C hH hS hU hW⟩⟩ rfl hn hl.1 hst (g_rest hw) hd ⟨h1, h2⟩) hS fun v h1' H1 locs1 hq hH1 hS1 => ?_
  exact kk v h1' hq p e s m args below meth c C ls H1 locs1 hl hH1 hS1
theorem G_callIN (S2 : Spec Γ y2 cc2 nL2 none rb2 (.ref b :: As) h Q2) (hc : g_cal y2 cc2 nL2 none n) (hini : y2.name = "<init>") (hi : Cond.instanceMethod y2 ∈ g_tb) (hl2 : Cond.methodLinkNest y.cls idx y2 host ∈ g_tb) (hd2 : rb2.1 + 1 ≤ rb.1) (hm : nL2 ≤ 45) (hn : As.length = n) (hw : (st.map fun v => v.category).sum ≤ 8) (h1 : cs.1 + rb2.2.1 ≤ rb.2.1) (h2 : cs.2 + rb2.2.2 ≤ rb.2.2) (hd : decode cc pc = .ok (.invokespecial idx, 3)) (hst : st0 = As.reverse ++ .ref b :: st) (kk : ∀ (v : Option Value) (h1 : PH), Q2 v h1 → GZ Γ Ω y cc nL rt rb (pc + 3) lv (v.toList ++ st) h1 (cs.1 + rb2.2.1, cs.2 + rb2.2.2)) : GZ Γ Ω y cc nL rt rb pc lv st0 h cs := by
  intro p e s m args below meth c C ls H locs hl hH hS
  refine g_call (va_runIN (As := As) (rest := st) (b := b) (n := n) (host := host) ⟨C.1, C.2.1, C.2.2.2.1, C.2.2.2.2.2.1, C.2.2.2.2.1⟩ S2 ⟨g_calN C hc hd2 hm hl2, hini, C.2.2.2.2.1 _ hi⟩ ⟨g_blind _, fun U hU hW => ⟨rfl, World.of C hH hS hU hW⟩⟩ rfl hn hl.1 hst (g_rest hw) hd ⟨h1, h2⟩) hS fun v h1' H1 locs1 hq hH1 hS1 => ?_
  exact kk v h1' hq p e s m args below meth c C ls H1 locs1 hl hH1 hS1
theorem G_objInit {a : Nat} (hl2 : Cond.methodLink y.cls idx Lib.objectInit ∈ g_tb) (hi : Cond.instanceMethod Lib.objectInit ∈ g_tb) (hc : Cond.code Lib.objectInit ⟨#[0xb1]⟩ 1 none ∈ g_tb) (hd : decode cc pc = .ok (.invokespecial idx, 3)) (hw : (st.map fun v => v.category).sum ≤ 8) (h1 : 1 ≤ rb.1) (kk : GZ Γ Ω y cc nL rt rb (pc + 3) lv st h cs) : GZ Γ Ω y cc nL rt rb pc lv (.ref a :: st) h cs := by
  intro p e s m args below meth c C ls H locs hl hH hS
  exact W.objInit C.1 C.2.1 C.2.2.2.2.2.1 (C.2.2.2.2.1 _ hl2) (C.2.2.2.2.1 _ hi) (C.2.2.2.2.1 _ hc) rfl (hl.1.trans C.2.2.2.1.symm) rfl hd h1 (by show 2 * 0 + _ + 12 ≤ 64 * rb.1; omega) (kk p e s m args below meth c C ls H locs hl hH hS)
theorem G_mmin {x z : Int32} (hl2 : Cond.methodLink y.cls idx Lib.Math.min.name ∈ g_tb) (hi : Cond.static Lib.Math.min.name ∈ g_tb) (hni : Cond.initialized "java/lang/Math" ∈ g_tb) (hc : Cond.code Lib.Math.min.name Lib.Math.min.code 2 (some .int) ∈ g_tb) (hd : decode cc pc = .ok (.invokestatic idx, 3)) (hw : (st.map fun v => v.category).sum ≤ 8) (h1 : 1 ≤ rb.1) (h2 : cs.1 ≤ rb.2.1) (h3 : cs.2 ≤ rb.2.2) (kk : GZ Γ Ω y cc nL rt rb (pc + 3) lv (.int (if z < x then z else x) :: st) h cs) : GZ Γ Ω y cc nL rt rb pc lv (.int z :: .int x :: st) h cs := by
  intro p e s m args below meth c C ls H locs hl hH hS
  exact va_mmin C.1 C.2.1 (C.2.2.2.1.trans hl.1.symm) C.2.2.2.2.2.1 (C.2.2.2.2.1 _ hl2) (C.2.2.2.2.1 _ hi) (C.2.2.2.2.1 _ hni) (C.2.2.2.2.1 _ hc) h1 (by show _ + 13 ≤ 64 * rb.1; omega) h2 h3 hd (kk p e s m args below meth c C ls H locs hl hH hS)
theorem G_mmax {x z : Int32} (hl2 : Cond.methodLink y.cls idx Lib.Math.max.name ∈ g_tb) (hi : Cond.static Lib.Math.max.name ∈ g_tb) (hni : Cond.initialized "java/lang/Math" ∈ g_tb) (hc : Cond.code Lib.Math.max.name Lib.Math.max.code 2 (some .int) ∈ g_tb) (hd : decode cc pc = .ok (.invokestatic idx, 3)) (hw : (st.map fun v => v.category).sum ≤ 8) (h1 : 1 ≤ rb.1) (h2 : cs.1 ≤ rb.2.1) (h3 : cs.2 ≤ rb.2.2) (kk : GZ Γ Ω y cc nL rt rb (pc + 3) lv (.int (if x < z then z else x) :: st) h cs) : GZ Γ Ω y cc nL rt rb pc lv (.int z :: .int x :: st) h cs := by
  intro p e s m args below meth c C ls H locs hl hH hS
  exact va_mmax C.1 C.2.1 (C.2.2.2.1.trans hl.1.symm) C.2.2.2.2.2.1 (C.2.2.2.2.1 _ hl2) (C.2.2.2.2.1 _ hi) (C.2.2.2.2.1 _ hni) (C.2.2.2.2.1 _ hc) h1 (by show _ + 13 ≤ 64 * rb.1; omega) h2 h3 hd (kk p e s m args below meth c C ls H locs hl hH hS)
/-- System.arraycopy, of int arrays -/
theorem G_acopy {a0 a : Nat} {sp dp k : Int32} (hl2 : Cond.methodLink y.cls idx arraycopyName ∈ g_tb) (hnat : Cond.native arraycopyName ∈ g_tb) (hstat : Cond.static arraycopyName ∈ g_tb) (hni : Cond.initialized "java/lang/System" ∈ g_tb) (ha0 : hK h a0 = 12) (ha1 : hK h a = 12)
    (h1 : ¬ sp < 0) (h2 : ¬ dp < 0) (h3 : ¬ k < 0) (h4 : ix sp + ix k ≤ hN h a0) (h5 : ix dp + ix k ≤ hN h a) (hd : decode cc pc = .ok (.invokestatic idx, 3)) (hw : (st.map fun v => v.category).sum ≤ 8) (hr : 2 ≤ rb.1)
    (kk : GZ Γ Ω y cc nL rt rb (pc + 3) lv st (sRow h a (va_cpy (hI h a0) (hI h a) (ix sp) (ix dp) (ix k))) cs) : GZ Γ Ω y cc nL rt rb pc lv (.int k :: .int dp :: .ref a :: .int sp :: .ref a0 :: st) h cs := by
  intro p e s m args below meth c C ls H locs hl hH hS
  have nn : ∀ z : Int32, ¬ z < 0 → z.toInt = (z.toNatClampNeg : Int) := by
    intro z hz
    have hz0 : (0 : Int) ≤ z.toInt := by
      have := Int32.not_lt.mp hz
      simpa using Int32.le_iff_toInt_le.mp this
    show z.toInt = ((z.toInt.toNat : Nat) : Int)
    omega
  have hfw : 2 * 0 + 8 + (nativeFrameWords "java/lang/System" "arraycopy" 5 + 11) ≤ 64 * 2 := by decide +kernel
  intro T hT X
  obtain ⟨q0, hq0⟩ := hH.at (a := a0) (by omega)
  rw [g_cell_int ha0 (by decide) (by decide)] at hq0
  obtain ⟨q1, hq1⟩ := hH.at (a := a) (by omega)
  rw [g_cell_int ha1 (by decide) (by decide)] at hq1
  generalize hcA : Γ.2.2.2.1 12 = cA at hq0 hq1
  generalize hn0 : hN h a0 = n0 at hq0 h4
  generalize hf0 : hI h a0 = f at hq0
  have hc0 : H[a0]? = some (vp_cell cA (n0, .inl f)) := hH.2.2.1 q0 _ hq0
  have hc1 : H[a]? = some (vp_cell cA (hN h a, .inl (hI h a))) := hH.2.2.1 q1 _ hq1
  have hK := C.2.2.2.2.2.2.2.2.1
  have h4 : sp.toNatClampNeg + k.toNatClampNeg ≤ n0 := h4
  have h5 : dp.toNatClampNeg + k.toNatClampNeg ≤ hN h a := h5
  have hT1 : ArrOfT s (Γ.2.2.2.1 12) .int := (hK.2 1 _ rfl).1
  rw [hcA] at hT1
  obtain ⟨-, k0, hk0, cm0, hkk0⟩ := hT1 n0 (fun j => .int (f j))
  obtain ⟨-, k1, hk1, cm1, hkk1⟩ := hT1 (hN h a) (fun j => .int (hI h a j))
  obtain ⟨vm', X', step⟩ := X.arraycopy C.1 C.2.2.2.2.2.1 (C.2.2.2.2.1 _ hl2) (C.2.2.2.2.1 _ hnat) (C.2.2.2.2.1 _ hstat) (C.2.2.2.2.1 _ hni) (src := a0) (dst := a) (cs := vp_cell cA (n0, .inl f)) (cd := vp_cell cA (hN h a, .inl (hI h a))) (srcPos := sp) (destPos := dp) (n := k) (by rw [hT]; exact hc0) (by rw [hT]; exact hc1)
    (fun _ h => by cases h) (fun _ h => by cases h) (fun h => by cases h) (fun h => by cases h) hk0 hk1 hkk0 hkk1 (by simp [refKind]) h1 h2 h3
    (by rw [nn sp h1, nn k h3]; show ¬ _ > ((arrV cA n0 (fun j => .int (f j))).slots.size : Int); rw [arrV_size]; omega)
    (by rw [nn dp h2, nn k h3]; show ¬ _ > ((arrV cA (hN h a) (fun j => .int (hI h a j))).slots.size : Int); rw [arrV_size]; omega)
    (fun vm₁ _ i hi => by
      have e : (vp_cell cA (n0, .inl f)).slots.getD (sp.toNatClampNeg + i) .null = .int (f (sp.toNatClampNeg + i)) := by
        show (arrV cA n0 (fun j => .int (f j))).slots.getD _ _ = _
        rw [Array.getD_eq_getD_getElem?, arrV_read _ _ (by omega)]
        rfl
      refine ⟨?_, ?_⟩
      · rw [e]
        rfl
      · rw [e]
        exact trivial)
    (g := F0 m pc ls (.int k :: .int dp :: .ref a :: .int sp :: .ref a0 :: st)) rfl (by rw [C.2.2.2.1]; exact hl.1) (rest := st) rfl (by rw [C.2.1]; exact hd) (by show 1 ≤ rb.1; omega) (by show 2 * 0 + _ + (nativeFrameWords "java/lang/System" "arraycopy" 5 + 11) ≤ 64 * rb.1; exact Nat.le_trans (Nat.add_le_add (Nat.add_le_add (Nat.le_refl _) hw) (Nat.le_refl _)) (Nat.le_trans hfw (Nat.mul_le_mul_left 64 hr)))
  have e1 : copied (vp_cell cA (n0, .inl f)) (vp_cell cA (hN h a, .inl (hI h a))) sp dp k = vp_cell cA (hN h a, .inl (va_cpy f (hI h a) sp.toNatClampNeg dp.toNatClampNeg k.toNatClampNeg)) := va_copied (fun z => .int z) cA cA f (hI h a) h4
  rw [e1] at X' step
  have hlt : a < H.size := (Array.getElem?_eq_some_iff.mp hc1).1
  have hheap : ((T.setVm vm').setCell a (vp_cell cA (hN h a, .inl (va_cpy f (hI h a) sp.toNatClampNeg dp.toNatClampNeg k.toNatClampNeg)))).heap = H.setIfInBounds a (vp_cell cA (hN h a, .inl (va_cpy f (hI h a) sp.toNatClampNeg dp.toNatClampNeg k.toNatClampNeg))) := by rw [← hT]; rfl
  have oq : ∀ q : Nat, q ≠ a → (H.setIfInBounds a (vp_cell cA (hN h a, .inl (va_cpy f (hI h a) sp.toNatClampNeg dp.toNatClampNeg k.toNatClampNeg))))[q]? = H[q]? := fun q hq => by simp [Array.getElem?_setIfInBounds, Ne.symm hq]
  have hA : g_A Γ a := (hH.2.1 a (by omega)).1
  have hH1 : g_H Γ (sRow h a (va_cpy (hI h a0) (hI h a) (ix sp) (ix dp) (ix k))) (H.setIfInBounds a (vp_cell cA (hN h a, .inl (va_cpy f (hI h a) sp.toNatClampNeg dp.toNatClampNeg k.toNatClampNeg)))) := by
    refine hH.put (a := a) (by omega) rfl rfl (fun b hb => g_cell_congr rfl rfl (va_up_ne _ _ hb) rfl rfl) ?_ (by simp) oq
    rw [g_cell_int (h := sRow h a _) (a := a) ha1 (by decide) (by decide)]
    show (H.setIfInBounds a _)[a]? = some (vp_cell _ _)
    rw [hI_sRow, va_up_self, hN_sRow, hf0, hcA]
    simp [Array.getElem?_setIfInBounds, hlt]
  obtain ⟨t, a1, b1⟩ := kk p e s m args below meth c C ls _ _ hl hH1 ⟨by simp; exact hS.1, fun q g1 g2 => by
      rw [oq q (fun e => g2 (by rw [e]; exact hA))]
      exact hS.2.1 q g1 g2, fun q hq => by
      rcases List.mem_append.mp hq with h | h
      · exact hS.2.2 q h
      · obtain ⟨z, -, hz⟩ := List.mem_map.mp h
        rw [← hz]
        exact hA⟩ _ hheap X'
  exact ⟨t, step t a1, b1⟩
end GC
