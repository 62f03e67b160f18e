/-! Methods that may throw NoSuchElementException: the judgement GT, the throw, the law's own 'rests' that catches it. -/
def NSE : String := "java/util/NoSuchElementException"
/-- the heap has grown by cells of which nothing is said -/
def gr (h : PH) (k : Nat) : PH := (k, hK h, hN h, hI h, hJ h, hR h, hW h)
def g_X (Γ : GX) (Q : Option Int32 → PH → Prop) : String → State → State → Prop := fun E st t => E = NSE ∧ (∃ (h : PH) (k : Nat), hz h ≤ k ∧ Q none h ∧ World Γ (gr h k) t) ∧ va_F (g_A Γ) st t
def g_finT (Γ : GX) (rb : GR) (Q : Option Int32 → PH → Prop) : List Frame → Array Value → State → State → Prop := fun below args s => vx_MQ below (g_post Γ (q_i (fun r h => Q (some r) h))) (g_X Γ Q) args s rb.2.1 rb.2.2 (g_A Γ)
abbrev GT (Γ : GX) (y : MethodName) (cc : ByteArray) (nL : Nat) (rt : Option FieldType) (rb : GR) (pc : Nat) (lv : List (Option Value)) (st : List Value) (h : PH) (cs : Nat × Nat) (Q : Option Int32 → PH → Prop) : Prop :=
  GZ Γ (g_finT Γ rb Q) y cc nL rt rb pc lv st h cs
def SpecT (Γ : GX) (y : MethodName) (cc : ByteArray) (nL : Nat) (rt : Option FieldType) (rb : GR) (av : List Value) (h : PH) (Q : Option Int32 → PH → Prop) : Prop :=
  vx_Met Γ.1 y (Cond.code y cc nL rt :: g_tb) (g_room rb) (va_Pc av (World Γ h)) (g_post Γ (q_i (fun r h => Q (some r) h))) (g_X Γ Q) rb.2.1 rb.2.2 (g_A Γ)
/-- the throw's facts: the flags, the two statics of Throwable -/
def TF (Γ : GX) : Prop := Γ.1.stackTraces = false ∧ vx_Zq Bundle.tN "UNASSIGNED_STACK" Bundle.steD (g_A Γ) Γ.2.1 Γ.2.1.heap ∧ vx_Zq Bundle.tN "SUPPRESSED_SENTINEL" Bundle.listD (g_A Γ) Γ.2.1 Γ.2.1.heap
def t_words : List Cond := Cond.classLink RX10 272 NSE :: Cond.initialized NSE :: vx_at0 RX10 274 NSE ["java/lang/RuntimeException", "java/lang/Exception"]
theorem t_words_in : t_words.all (fun w => decide (w ∈ lw_tbl) && (g_ok w && vx_ot w)) = true := by decide +kernel
theorem t_words_tb : ∀ w ∈ t_words, w ∈ g_tb ∧ vx_ot w = true := by
  intro w hw
  have h := List.all_eq_true.mp t_words_in w hw
  simp only [Bool.and_eq_true, decide_eq_true_eq] at h
  exact ⟨List.mem_filter.mpr ⟨h.1, h.2.1⟩, h.2.2⟩
theorem gr_H {Γ : GX} {h : PH} {H H1 : Heap} (hH : g_H Γ h H) (hz1 : H.size ≤ H1.size) (hk : ∀ q : Nat, q < H.size → H1[q]? = H[q]?) : g_H Γ (gr h H1.size) H1 := by
  refine ⟨rfl, fun a ha => ⟨(hH.2.1 a ha).1, Nat.lt_of_lt_of_le (hH.2.1 a ha).2 (by rw [← hH.1]; exact hz1)⟩, fun k q hq => ?_, hH.2.2.2⟩
  have hm : q ∈ g_ws Γ (gr h H1.size) := List.mem_of_getElem? hq
  obtain ⟨a, ha, rfl⟩ := List.mem_map.mp hm
  have h2 : hK h a < 17 := (g_L_mem.mp ha).2.2
  obtain ⟨k', hk'⟩ := hH.at h2
  have h3 := hH.2.2.1 k' _ hk'
  have e2 : g_cell Γ.2.2.2.1 (gr h H1.size) a = g_cell Γ.2.2.2.1 h a := g_cell_congr rfl rfl rfl rfl rfl
  show va_at _ _ (a, g_cell Γ.2.2.2.1 (gr h H1.size) a) H1
  rw [e2]
  exact h3.kept (hk a h3.lt)
section VXW
variable {p : Program} {l : Launch} {e : Env} {R : Room} {s : State} {m : MethodId} {args : Array Value} {below : List Frame} {meth : Method} {c : Code} {H : Heap} {locs : List Loc} {cells slots : Nat} {Q : State → Prop}
variable {mc ms : Nat} {free : Addr → Prop} {A0 A1 : Nat → Prop} {H0 : Heap} {a : Array Value} {ls : Array Slot} {st0 rest : List Value}
variable {Qc : Array Value → State → Outcome → State → Prop} {XC : String → State → State → Prop}
theorem vx_throw0W {cc : ByteArray} {pc : Nat} (hexec : p.tables.exec = Jvm.exec) (hb : c.code = cc) (hl : l.stackTraces = false) {own cls : String} {names : List String} {ik ic mc ms : Nat} {A : Nat → Prop}
    (hown : s.vm.findClass own = some m.cls) (hcls : Bundle.fit cls = true) (hnames : ∀ n ∈ names, Bundle.fit n = true)
    (hk : (Cond.classLink own ik cls).before args s = true) (hini : (Cond.initialized cls).before args s = true) (hat : ∀ w ∈ vx_at0 own ic cls names, w.before args s = true)
    (hgood : ∀ w ∈ Cond.classLink own ik cls :: Cond.initialized cls :: vx_at0 own ic cls names, vx_ot w = true)
    (hU : vx_Zq Bundle.tN "UNASSIGNED_STACK" Bundle.steD A s s.heap) (hN : vx_Zq Bundle.tN "SUPPRESSED_SENTINEL" Bundle.listD A s s.heap) (hS : va_S A s.heap H locs) (hsize : ls.size = c.maxLocals)
    (d0 : decode cc pc = .ok (.new ik, 3)) (d3 : decode cc (pc + 3) = .ok (.dup, 1)) (d4 : decode cc (pc + 4) = .ok (.invokespecial ic, 3)) (d7 : decode cc (pc + 7) = .ok (.athrow, 1))
    (hout : ∀ x ∈ c.exceptionTable.toList, covers x (pc + 7) = false)
    (hRframes : names.length + 3 < R.frames) (hRlocals : (rest.map fun v => v.category).sum + (13 * (names.length + 1) + 42) ≤ R.locals) (hRcells : cells + 1 ≤ R.cells) (hRslots : slots + 6 ≤ R.slots) (hlocks : meth.locks = false)
    (hx : ∀ t : State, s.WarmedH t.vm → H.size ≤ t.heap.size → (∀ q : Nat, q < H.size → t.heap[q]? = H[q]?) → XC cls s t)
    (hf : ∀ z ∈ locs, free z.base) (hc : cells + 1 ≤ mc) (hs : slots + 6 ≤ ms) :
    W p l e R s m args below meth c H locs cells slots (vx_MQ below Qc XC args s mc ms free) (F0 m pc ls rest) := by
  intro T hT X
  have htr : e.platform.stackTraces = false := (show e.platform.stackTraces = l.stackTraces by rw [X.admits.platform]).trans hl
  have Y := vx_rebase X (R' := { frames := R.frames, locals := R.locals, cells := 1, slots := 6 }) (Nat.le_refl _) (Nat.le_refl _) hRcells hRslots
  obtain ⟨s', hA⟩ : ∃ z, z = (T.setVm s.vm).setFrames (.invoking m args :: below) := ⟨_, rfl⟩
  rw [← hA] at Y
  have hvm : s'.vm = s.vm := by rw [hA]; rfl
  have hhp : s'.heap = H := by rw [hA]; exact hT
  have hW0 : s.WarmedH s'.vm := by rw [hvm]; exact State.WarmedH.refl s
  have hat' : ∀ w ∈ vx_at0 own ic cls names, w.before args s' = true := fun w hw => vx_ot_at hW0 hvm.symm (hgood w (List.mem_cons_of_mem _ (List.mem_cons_of_mem _ hw))) (hat w hw)
  have hk' : (Cond.classLink own ik cls).before args s' = true := vx_ot_at hW0 hvm.symm (hgood _ List.mem_cons_self) hk
  have hini' : (Cond.initialized cls).before args s' = true := vx_ot_at hW0 hvm.symm (hgood _ (List.mem_cons_of_mem _ List.mem_cons_self)) hini
  have hU' : vx_Zq Bundle.tN "UNASSIGNED_STACK" Bundle.steD A s' s'.heap := by rw [hhp]; exact vx_Zq.moved hW0.alike (hU.kept hS.2.1)
  have hN' : vx_Zq Bundle.tN "SUPPRESSED_SENTINEL" Bundle.listD A s' s'.heap := by rw [hhp]; exact vx_Zq.moved hW0.alike (hN.kept hS.2.1)
  have h : ∀ w ∈ Bundle.ownAtoms0 own ic cls names, w.before args s' = true := vx_own hat' (vx_isRefq hU'.1) (vx_isRefq hN'.1) hU'.2.word hN'.2.word
  have hown' : s'.vm.findClass own = some m.cls := by rw [hvm]; exact hown
  have hins : (Cond.instantiable cls 6).before args s' = true := h _ (by simp [Bundle.ownAtoms0])
  obtain ⟨vm₁, cX, kX, hfX, hkX, -, -, X₁, st1⟩ := Y.newCold hexec (own := own) (C := cls) (index := ik) (n := 6) hown' hk' hins hini'
    (g := F0 m pc ls rest) rfl (by rw [hb]; exact d0) (Nat.le_refl _) (Nat.le_refl _)
  generalize hT1 : (T.setVm vm₁).pushCell { cls := cX, slots := kX.instanceTypes.map defaultValue, vm := .none } = T1 at X₁ st1
  have hcat : (Value.ref T.heap.size).category = 1 := rfl
  have hcellA : T1.heap[T.heap.size]? = some (freshCell cX kX) := by rw [← hT1]; exact State.heap_pushCell_size _ _
  have d3' : decode c.code (pc + 3) = .ok (.dup, 1) := by rw [hb]; exact d3
  obtain ⟨U, hsteps, hrun, hend, hW, hsame, ce, hce, hO⟩ := X₁.ctorThrow0 hexec htr (own := own) (cls := cls) (names := names) (ic := ic) hown' hcls hnames h (fun x hx => nomatch hx) hfX hkX hcellA (by rw [hhp, hT]; exact Nat.le_refl _)
    (g := { method := m, pc := pc + 4, locals := ls, stack := .ref T.heap.size :: .ref T.heap.size :: rest, locked := none }) rfl hsize rfl rfl (rest := rest) rfl
    (by rw [hb]; exact d4) (by rw [hb]; exact d7) hout hRframes (by simp only [List.map_cons, List.sum_cons, hcat]; omega) hlocks
  obtain ⟨f1, f2⟩ := vx_frame hsame
  rw [hhp] at f1 f2
  have hWs : s.WarmedH U.vm := State.WarmedH.trans hW0 hW
  have hcl : s.vm.findClass cls = some ce.cls := by
    have h9 := hO.cls
    rw [hvm] at h9
    exact h9
  have hall : s.sameButNew ({ U with vm := s.vm } : State) locs mc ms := by
    subst hA
    obtain ⟨e1, e2⟩ := hsame
    rw [State.setFrames_setFrames] at e1
    have h2 : (T.setVm s.vm).sameButNew ({ U with vm := s.vm } : State) [] (0 + 1) (0 + 6) := ⟨e1, e2⟩
    have h3 := X.same.trans h2
    rw [List.append_nil] at h3
    exact h3.mono hc hs
  refine ⟨U, ?_, .threw T.heap.size, hrun, hend, Or.inr ⟨T.heap.size, rfl, cls, ce, locs, hx U hWs f1 (fun q hq => f2 q hq (fun z hz => nomatch hz)), hce, hO.vm, hcl, hWs, hall, hf⟩⟩
  refine st1 _ ?_
  show Steps p.tables e below (T1.setTop { method := m, pc := pc + 3, locals := ls, stack := .ref T.heap.size :: rest, locked := none }) _
  jvm_step X₁.here [X₁.here.top, hexec, d3', Value.category]
  exact hsteps
end VXW
section GTH
variable {Γ : GX} {cc : ByteArray} {nL : Nat} {rt : Option FieldType} {rb : GR} {pc : Nat} {lv : List (Option Value)} {st : List Value} {h : PH} {cs : Nat × Nat} {Q : Option Int32 → PH → Prop} {y : MethodName}
/-- throw new NoSuchElementException() -/
theorem GT_throw (ht : TF Γ) (hy : y.cls = RX10) (d0 : decode cc pc = .ok (.new 272, 3)) (d3 : decode cc (pc + 3) = .ok (.dup, 1)) (d4 : decode cc (pc + 4) = .ok (.invokespecial 274, 3)) (d7 : decode cc (pc + 7) = .ok (.athrow, 1)) (hr : 6 ≤ rb.1) (hw : (st.map fun v => v.category).sum ≤ 8) (h1 : cs.1 + 1 ≤ rb.2.1) (h2 : cs.2 + 6 ≤ rb.2.2) (hq : Q none h) : GT Γ y cc nL rt rb pc lv st h cs Q := by
  intro p e s m args below meth c C ls H locs hlv hH hS
  have hts := C.2.2.2.2.1
  have hout : ∀ x ∈ c.exceptionTable.toList, covers x (pc + 7) = false := by
    rcases C.2.2.2.2.2.2.2.2.2.1.2.2 with z | z
    · exact fun x hx => (z.2 x hx).elim
    · rw [z.1] at hy
      exact absurd hy (by decide)
  have hU := (ht.2.1.kept (g_old C)).moved (g_alk C)
  have hN := (ht.2.2.kept (g_old C)).moved (g_alk C)
  refine vx_throw0W (own := RX10) (cls := NSE) (names := ["java/lang/RuntimeException", "java/lang/Exception"]) (ik := 272) (ic := 274) (A := g_A Γ) C.1 C.2.1 ht.1 (hy ▸ C.2.2.2.2.2.1) (by decide +kernel) (by decide +kernel) (hts _ (t_words_tb _ List.mem_cons_self).1) (hts _ (t_words_tb _ (List.mem_cons_of_mem _ List.mem_cons_self)).1) (fun w hw => hts w (t_words_tb w (List.mem_cons_of_mem _ (List.mem_cons_of_mem _ hw))).1) (fun w hw => (t_words_tb w hw).2) hU hN hS (hlv.1.trans C.2.2.2.1.symm) d0 d3 d4 d7 hout ?_ ?_ h1 h2 C.2.2.2.2.2.2.1 ?_ hS.2.2 h1 h2
  · show 2 + 3 < rb.1
    omega
  · show _ + (13 * (2 + 1) + 42) ≤ 64 * rb.1
    omega
  · intro t hWm hsz hk
    have hal := hWm.alike
    have hg := gr_H hH hsz hk
    refine ⟨rfl, ⟨h, t.heap.size, by rw [← hH.1]; exact hsz, hq, hg, ?_, va_K.moved hal C.2.2.2.2.2.2.2.2.1, fun q hq => ?_, (g_alk C).trans hal, ?_⟩, ?_⟩
    · exact Nat.le_trans C.2.2.2.2.2.2.2.2.2.2.2 (Nat.le_trans hS.1 hsz)
    · have e1 : q < s.heap.size := Nat.lt_of_lt_of_le hq C.2.2.2.2.2.2.2.2.2.2.2
      rw [hk q (Nat.lt_of_lt_of_le e1 hS.1), hS.2.1 q e1 (fun z => absurd z (Nat.not_le.mpr hq))]
      exact C.2.2.2.2.2.2.2.2.2.2.1 q hq
    · exact C.2.2.2.2.2.2.2.2.2.1.2.1.warm hWm
    · exact ⟨Nat.le_trans hS.1 hsz, fun q g1 g2 => by rw [hk q (Nat.lt_of_lt_of_le g1 hS.1)]; exact hS.2.1 q g1 g2⟩
theorem GT_ireturn {x : Int32} (hr : rt = some .int) (hd : decode cc pc = .ok (.ireturn, 1)) (hq : Q (some x) h) (h1 : cs.1 ≤ rb.2.1 := by first | exact Nat.le_refl _ | exact Nat.le_of_ble_eq_true rfl) (h2 : cs.2 ≤ rb.2.2 := by first | exact Nat.le_refl _ | exact Nat.le_of_ble_eq_true rfl) : GT Γ y cc nL rt rb pc lv [.int x] h cs Q :=
  fun p e s m args below meth c C ls H locs hl hH hS => vx_ret (G_ireturn (Q := q_i (fun r h => Q (some r) h)) hr hd ⟨x, rfl, hq⟩ h1 h2 p e s m args below meth c C ls H locs hl hH hS)
theorem SpecT.of (hy : plainName y.cls = true) {av : List Value} (hn : (lg_sl av).length ≤ nL) (lv : List (Option Value)) (hlv : g_prs lv = lv_args 0 av) (hG : GT Γ y cc nL rt rb 0 lv [] h (0, 0) Q) (hne : y ≠ yL_rests := by decide) : SpecT Γ y cc nL rt rb av h Q := by
  refine vx_ofW (cc := cc) (maxL := nL) (ret := rt) hy rfl ?_
  intro p e s m args below meth c s₁ B hml htab hv
  obtain ⟨rfl, hH, hlo, hK, hold, hal⟩ := hv
  have hts := atoms_spec (ws := Cond.code y cc nL rt :: g_tb) B.pre
  have C : g_ctx Γ y cc nL rt p s m av.toArray meth c := ⟨B.exec, B.bytes, B.returns, hml, fun w hw => hts w (List.mem_cons_of_mem _ hw), findClass_of_methodNamed B.named, B.notSynchronized, (name_of_methodNamed B.named B.method).1, hK, ⟨hal.1, hal.2, Or.inl ⟨hne, htab⟩⟩, hold, hlo⟩
  have hl := lv_entry av (n := nL) hn
  rw [lg_entry_eq]
  exact hG p e s m av.toArray below meth c C _ s.heap [] (g_lv.of hl fun i v h => by rw [← hlv]; exact g_prs_mem.mpr h) hH va_S.rf
end GTH
