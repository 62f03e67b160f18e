/-! The law's own 'rests': it calls the class's and catches what it throws. -/
/-- a contract of a method with handlers -/
theorem g_ofWH {l : Launch} {y : MethodName} {ws ws' : List Cond} {rm : Room} {Pc : Array Value → State → Prop} {Qc : Array Value → State → Outcome → State → Prop} {mc ms : Nat} {free : Addr → Prop} {cc : ByteArray} {maxL : Nat} {ret : Option FieldType} {hh : List (Nat × Nat × Nat × Nat)}
    (hy : plainName y.cls = true) (hw : ws = Cond.codeWith y cc maxL ret hh :: ws')
    (body : ∀ p e s m args below meth c s₁, BodyLoose p l y (headSpec ws rm) cc maxL ret e s m args below meth c s₁ → c.maxLocals = maxL → c.exceptionTable.toList = tableOf hh → Pc args s →
      W p l e (headSpec ws rm).room s m args below meth c s.heap [] 0 0 (MQ below Qc args s mc ms free) (entryFrame m args maxL)) : Met l y ws rm Pc Qc mc ms free := by
  refine MetFree.of_bodyS (code := cc) (maxLocals := maxL) (ret := ret) hy ?_ ?_
  · intro args s m h hn
    obtain ⟨m9, meth, c, hn9, h1, h2, h3, h4, -, h5, h6, -⟩ := Cond.codeWith_spec (atoms_spec (ws := ws) h _ (by rw [hw]; exact List.mem_cons_self))
    cases hn.symm.trans hn9
    exact ⟨meth, c, h1, h2, h3, h4, h5, h6⟩
  · intro p e s m args below meth c s₁ B hml hP _
    have hh0 : s₁.heap = s.heap := by rw [B.state]; rfl
    have htb := vx_table (x := y) B (atoms_spec (ws := ws) B.pre _ (by rw [hw]; exact List.mem_cons_self))
    obtain ⟨t, a1, o, b1, b2, b3⟩ := body p e s m args below meth c s₁ B hml htb hP s₁ hh0 (Stand.of_body B)
    exact ⟨t, o, a1, b1, b2, ⟨b3.1, b3.2⟩⟩
def SpecW (Γ : GX) (y : MethodName) (cc : ByteArray) (nL : Nat) (rt : Option FieldType) (hh : List (Nat × Nat × Nat × Nat)) (rb : GR) (av : List Value) (h : PH) (Q : Option Value → PH → Prop) : Prop :=
  Met Γ.1 y (Cond.codeWith y cc nL rt hh :: g_tb) (g_room rb) (va_Pc av (World Γ h)) (g_post Γ Q) rb.2.1 rb.2.2 (g_A Γ)
theorem w_castN : Cond.castable NSE NSE ∈ g_tb := g_in5 218 (by decide +kernel) rfl
theorem w_cwL : Cond.codeWith yL_rests cL_rests 9 (some .int) [(0, 18, 21, 13)] ∈ g_tb := g_in5 206 (by decide +kernel) rfl
section GRE
variable {Γ : GX} {cc : ByteArray} {nL : Nat} {rt : Option FieldType} {rb : GR} {pc : Nat} {lv : List (Option Value)} {st st0 : List Value} {h : PH} {cs : Nat × Nat} {Q : Option Value → PH → Prop} {Ω : List Frame → Array Value → State → State → Prop}
theorem SpecW.of {av : List Value} (hn : (lg_sl av).length ≤ nL) (lv : List (Option Value)) (hlv : g_prs lv = lv_args 0 av) (hG : G Γ yL_rests cc nL rt rb 0 lv [] h (0, 0) Q) : SpecW Γ yL_rests cc nL rt [(0, 18, 21, 13)] rb av h Q := by
  refine g_ofWH (cc := cc) (maxL := nL) (ret := rt) (hh := [(0, 18, 21, 13)]) (by decide) rfl ?_
  intro p e s m args below meth c s₁ B hml htab hv
  obtain ⟨rfl, hH, hlo, hK, hold, hal⟩ := hv
  have hts := atoms_spec (ws := Cond.codeWith yL_rests cc nL rt [(0, 18, 21, 13)] :: g_tb) B.pre
  have C : g_ctx Γ yL_rests cc nL rt p s m av.toArray meth c := ⟨B.exec, B.bytes, B.returns, hml, fun w hw => hts w (List.mem_cons_of_mem _ hw), findClass_of_methodNamed B.named, B.notSynchronized, (name_of_methodNamed B.named B.method).1, hK, ⟨hal.1, hal.2, Or.inr ⟨rfl, htab⟩⟩, hold, hlo⟩
  have hl := lv_entry av (n := nL) hn
  rw [lg_entry_eq]
  exact hG p e s m av.toArray below meth c C _ s.heap [] (g_lv.of hl fun i v h => by rw [← hlv]; exact g_prs_mem.mpr h) hH va_S.rf
theorem G_callVT {y2 : MethodName} {cc2 : ByteArray} {nL2 : Nat} {rt2 : Option FieldType} {rb2 : GR} {Q2 : Option Int32 → PH → Prop} {As : List Value} {n idx b : Nat} (S2 : SpecT Γ y2 cc2 nL2 rt2 rb2 (.ref b :: As) h Q2) (hc : g_cal y2 cc2 nL2 rt2 n) (hi : Cond.instanceMethod y2 ∈ g_tb) (hsel : Cond.selects RX10 y2 y2 ∈ g_tb) (hl2 : Cond.methodLink RL idx y2 ∈ g_tb) (hb : hK h b = 9) (hlk : Cond.classLink RL 13 NSE ∈ g_tb) (hca : Cond.castable NSE NSE ∈ g_tb)
    (hd2 : rb2.1 + 1 ≤ rb.1) (hm : nL2 ≤ 45) (hn : As.length = n) (hw : (st.map fun v => v.category).sum ≤ 8) (h1 : cs.1 + rb2.2.1 ≤ rb.2.1) (h2 : cs.2 + rb2.2.2 ≤ rb.2.2) (hd : decode cc pc = .ok (.invokevirtual idx, 3)) (hpc : pc < 18) (hst : st0 = As.reverse ++ .ref b :: st)
    (kk : ∀ (r : Int32) (h1 : PH), Q2 (some r) h1 → GZ Γ Ω yL_rests cc nL rt rb (pc + 3) lv (.int r :: st) h1 (cs.1 + rb2.2.1, cs.2 + rb2.2.2))
    (kx : ∀ (q : Nat) (h1 : PH) (k : Nat), hz h1 ≤ k → Q2 none h1 → GZ Γ Ω yL_rests cc nL rt rb 21 lv [.ref q] (gr h1 k) (cs.1 + rb2.2.1, cs.2 + rb2.2.2)) : GZ Γ Ω yL_rests cc nL rt rb pc lv st0 h cs := by
  intro p e s m args below meth c C ls H locs hl hH hS
  have hr := vx_runV (As := As) (rest := st) (b := b) (C := RX10) (n := n) (g := F0 m pc ls st0) (below := below) (e := e) (locs := locs) (H := H) (meth := meth) (cells := cs.1) (slots := cs.2) ⟨C.1, C.2.1, C.2.2.2.1, C.2.2.2.2.2.1, C.2.2.2.2.1⟩ S2 ⟨g_calB (idx := idx) C hc hd2 hm hl2, C.2.2.2.2.1 _ hi, C.2.2.2.2.1 _ hsel⟩ ⟨g_blind _, g_recv C hH (ci := 9) rfl (by decide) hb, fun U hU hW => ⟨rfl, World.of C hH hS hU hW⟩⟩ rfl hn hl.1 hst (g_rest hw) hd ⟨h1, h2⟩
  intro T hT X
  rcases hr T hT X with ⟨v, st₀, t, T', L, h0, X', hL, e1, e2, ⟨⟨v', h1', hv, ⟨r, hv2, hq⟩, hw'⟩, hz, hk⟩, stp⟩ | ⟨q, st₀, t, T', L, E, ce, h0, X', hL, e1, e2, ⟨hE, ⟨h1', k, hk1, hq, hw'⟩, hz, hk⟩, hce, hcv, hcl, stp⟩
  · cases hv
    subst hv2
    rw [h0] at hz hk
    obtain ⟨t2, a1, b1⟩ := kk r h1' hq p e s m args below meth c C ls T'.heap (locs ++ L) hl (by rw [e1]; exact hw'.1)
      ⟨Nat.le_trans hS.1 (by rw [e1]; exact hz), fun q h1 h2 => by rw [e1, hk q (Nat.lt_of_lt_of_le h1 hS.1) h2]; exact hS.2.1 q h1 h2, fun q hq => by
        rcases List.mem_append.mp hq with h | h
        · exact hS.2.2 q h
        · exact hL q h⟩ T' rfl X'
    exact ⟨t2, stp t2 a1, b1⟩
  · subst hE
    rw [h0] at hz hk
    have hSx : va_S (g_A Γ) s.heap T'.heap (locs ++ L) := ⟨Nat.le_trans hS.1 (by rw [e1]; exact hz), fun q h1 h2 => by rw [e1, hk q (Nat.lt_of_lt_of_le h1 hS.1) h2]; exact hS.2.1 q h1 h2, fun q hq => by
        rcases List.mem_append.mp hq with h | h
        · exact hS.2.2 q h
        · exact hL q h⟩
    have hK := kx q h1' k hk1 hq p e s m args below meth c C ls T'.heap (locs ++ L) hl (by rw [e1]; exact hw'.1) hSx
    have htab : c.exceptionTable.toList = tableOf [(0, 18, 21, 13)] := by
      rcases C.2.2.2.2.2.2.2.2.2.1.2.2 with z | z
      · exact absurd rfl z.1
      · exact z.2
    have hcat := vx_catch (E := NSE) (name := NSE) (own := RL) (ce := ce) (q := q) (pc := pc) (rest := st) (ls := ls) C.2.2.2.2.2.1 [] ⟨0, 18, 21, 13⟩ [] htab (fun z hz => by cases hz) (by simp [covers, hpc]) (by decide) (C.2.2.2.2.1 _ hlk) (C.2.2.2.2.1 _ hca) (by rw [e1]; exact hce) hcv hcl hK
    obtain ⟨t2, a1, b1⟩ := hcat T' rfl X'
    exact ⟨t2, stp.trans a1, b1⟩
/-- what the law's 'rests' leaves: 1 and a heap that may have grown, or 0 and the answer in the row o -/
def l_rq (o : Nat) (Q2 : Option Int32 → PH → Prop) : Option Value → PH → Prop := fun v h' => (∃ (h1 : PH) (k : Nat), v = some (.int 1) ∧ hz h1 ≤ k ∧ Q2 none h1 ∧ h' = gr h1 k) ∨ (∃ (r : Int32) (h1 : PH), v = some (.int 0) ∧ Q2 (some r) h1 ∧ h' = sJ h1 o 0 r.toInt64)
set_option maxHeartbeats 4000000 in
set_option maxRecDepth 100000 in
theorem s_L_rests (hs : SF Γ) (ht : TF Γ) {N x o : Nat} (p0 p1 p2 p3 p4 p5 : Int32) (h : PH) (Q2 : Option Int32 → PH → Prop) (hw : wp (f_X10_rests N x p0 p1 p2 p3 p4 p5 h) Q2) (hx : hK h x = 9) (ho : ∀ r h1, Q2 r h1 → hK h1 o = 14 ∧ 0 < hN h1 o) : SpecW Γ yL_rests cL_rests 9 (some .int) [(0, 18, 21, 13)] (100, 1, 6) [.ref x, .int p0, .int p1, .int p2, .int p3, .int p4, .int p5, .ref o] h (l_rq o Q2) := by
  refine SpecW.of (Nat.le_of_ble_eq_true rfl) [some (.ref x), some (.int p0), some (.int p1), some (.int p2), some (.int p3), some (.int p4), some (.int p5), some (.ref o), none] rfl ?_
  refine G_aload dL_rests_0 rfl ?_
  refine G_iconst (v := (0 : Int32)) dL_rests_2 (by decide) ?_
  refine G_aload_n dL_rests_3 rfl ?_
  refine G_iload_n dL_rests_4 rfl ?_
  refine G_iload_n dL_rests_5 rfl ?_
  refine G_iload_n dL_rests_6 rfl ?_
  refine G_iload dL_rests_7 rfl ?_
  refine G_iload dL_rests_9 rfl ?_
  refine G_iload dL_rests_11 rfl ?_
  refine G_callVT (As := [.int p0, .int p1, .int p2, .int p3, .int p4, .int p5]) (s_X10_rests hs ht x p0 p1 p2 p3 p4 p5 h Q2 hw) ca_X10_rests w_1296 w_1297 w_1295 hx w_1294 w_castN (Nat.le_of_ble_eq_true rfl) (Nat.le_of_ble_eq_true rfl) rfl (Nat.le_of_ble_eq_true rfl) (Nat.le_of_ble_eq_true rfl) (Nat.le_of_ble_eq_true rfl) dL_rests_13 (by decide) rfl (fun r h1 hq => ?_) (fun q h1 k hk hq => ?_)
  · obtain ⟨o1, o2⟩ := ho _ _ hq
    refine G_i2l dL_rests_16 ?_
    refine G_lastore dL_rests_17 o1 (g_inb (k := 0) (by decide) rfl o2) ?_
    refine G_goto (tgt := 25) dL_rests_18 rfl ?_
    refine G_iconst (v := (0 : Int32)) dL_rests_25 (by decide) ?_
    exact G_ireturn rfl dL_rests_26 (Or.inr ⟨r, h1, rfl, hq, rfl⟩)
  · refine G_astore (lv' := [some (.ref x), some (.int p0), some (.int p1), some (.int p2), some (.int p3), some (.int p4), some (.int p5), some (.ref o), some (.ref q)]) dL_rests_21 (Nat.le_of_ble_eq_true rfl) rfl ?_
    refine G_iconst (v := (1 : Int32)) dL_rests_23 (by decide) ?_
    exact G_ireturn rfl dL_rests_24 (Or.inl ⟨h1, k, rfl, hk, hq, rfl⟩)
/-- the law's call of its own 'rests' -/
theorem G_callSW {y y2 : MethodName} {cc2 : ByteArray} {nL2 : Nat} {rt2 : Option FieldType} {hh : List (Nat × Nat × Nat × Nat)} {rb2 : GR} {Q2 : Option Value → PH → Prop} {As : List Value} {n idx : Nat} (S2 : SpecW Γ y2 cc2 nL2 rt2 hh rb2 As h Q2) (hcw : Cond.codeWith y2 cc2 nL2 rt2 hh ∈ g_tb) (hini : Cond.initialized y2.cls ∈ g_tb) (hno : y2.cls ≠ "java/lang/invoke/MethodHandle" ∧ y2.cls ≠ "java/lang/invoke/VarHandle") (hpn : (parseMethodDescriptor y2.desc).map (fun d => d.parameters.length) = some n) (hi : Cond.static y2 ∈ g_tb) (hl2 : Cond.methodLink y.cls idx y2 ∈ g_tb)
    (hd2 : rb2.1 + 1 ≤ rb.1) (hm : nL2 ≤ 45) (hn : As.length = n) (hw : (st.map fun v => v.category).sum ≤ 8) (h1 : cs.1 + rb2.2.1 ≤ rb.2.1) (h2 : cs.2 + rb2.2.2 ≤ rb.2.2) (hd : decode cc pc = .ok (.invokestatic idx, 3)) (hst : st0 = As.reverse ++ st) (kk : ∀ (v : Option Value) (h1 : PH), Q2 v h1 → GZ Γ Ω y cc nL rt rb (pc + 3) lv (v.toList ++ st) h1 (cs.1 + rb2.2.1, cs.2 + rb2.2.2)) : GZ Γ Ω y cc nL rt rb pc lv st0 h cs := by
  intro p e s m args below meth c C ls H locs hl hH hS
  have hts := C.2.2.2.2.1
  refine g_call (vx_runSW (As := As) (rest := st) (n := n) (hh := hh) (bytes := cc2) (maxL := nL2) (ret := rt2) ⟨C.1, C.2.1, C.2.2.2.1, C.2.2.2.2.2.1, C.2.2.2.2.1⟩ S2 ⟨⟨rfl, rfl, hd2, by show 8 + (nL2 + 11) + 64 * rb2.1 ≤ 64 * rb.1; omega, fun w hw a' U hW => ?_, List.mem_cons_self⟩, hts _ hcw, hts _ hini, hno, fun sig hsig => ?_, hts _ hl2, hts _ hi⟩ ⟨g_blind _, fun U hU hW => ⟨rfl, World.of C hH hS hU hW⟩⟩ rfl hn hl.1 hst (g_rest hw) hd ⟨h1, h2⟩) hS fun v h1' H1 locs1 hq hH1 hS1 => ?_
  · rcases List.mem_cons.mp hw with rfl | hw
    · exact g_warm hcw (hts _ hcw) hW
    · exact g_warm hw (hts _ hw) hW
  · rw [hsig] at hpn
    exact (Option.some.inj hpn).symm
  · exact kk v h1' hq p e s m args below meth c C ls H1 locs1 hl hH1 hS1
end GRE
