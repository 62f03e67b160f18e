/-! The constants: the words of the language (0 .. 26), their row (27), the orders (28), the text of single signs (29) and its bytes (30). -/
def wnames : List String := ["FUEL", "DARK", "SWEET", "BURNS", "FLUE", "HOUSE", "AT", "STOCK", "SIGN", "TO", "WATCHER", "SEES", "BOTH", "WINDS", "GIVES", "SOOTS", "BURN", "LEND", "HOUR", "NOT", "AND", "OR", "SHADE", "SCENT", "WIND", "LEFT", "SMELT"]
def wcodes : List Int64 := [218284, 132683, 20681908, 2804179, 209573, 8902245, 52, 20593771, 632046, 655, 24750694578, 627891, 81544, 24426643, 7657651, 20430483, 87630, 398788, 278194, 14836, 1476, 498, 20186245, 20026836, 763332, 398548, 20354452]
def wkepts : List Int32 := [1, 1, 1, 1, 1, 1, 1, 1, 1, 1, 1, 1, 1, 1, 1, 1, 1, 1, 1, 1, 1, 1, 0, 0, 0, 0, 0]
def wcode (i : Nat) : Int64 := wcodes.getD i 0
def wkept (i : Nat) : Int32 := wkepts.getD i 0
def wname (i : Nat) : String := wnames.getD i ""
def gorders (j : Nat) : Int32 := ([1, 1, 2, 6, 24] : List Int32).getD j 0
def gsingles (j : Nat) : Int32 := ([40, 41, 60, 61, 43, 45, 42, 59] : List Int32).getD j 0
/-- which word lies at an address -/
def wix (h : PH) (a : Nat) : Option Nat := (List.range 27).find? (fun i => hW h i == a)
theorem wix_at {h : PH} {a i : Nat} (hi : wix h a = some i) : i < 27 ∧ a = hW h i := by
  unfold wix at hi
  have h1 := List.find?_some hi
  have h2 := List.mem_of_find?_eq_some hi
  simp at h1 h2
  exact ⟨h2, h1.symm⟩
def SF (Γ : GX) : Prop :=
  (∀ i, i < 27 → va_Z RX9 (wname i) "LOneSmoke$Word;" (.ref (Γ.2.2.2.2 i)) (g_A Γ) Γ.2.1 Γ.2.1.heap) ∧
  va_Z RX9 "ALL" "[LOneSmoke$Word;" (.ref (Γ.2.2.2.2 27)) (g_A Γ) Γ.2.1 Γ.2.1.heap ∧
  va_T (.object RX9) (Γ.2.2.2.2 27) 27 (fun j => .ref (Γ.2.2.2.2 j)) (g_A Γ) Γ.2.1 Γ.2.1.heap ∧
  (∀ i, i < 27 → va_OF RX9 "code" "J" (.long (wcode i)) (Γ.2.2.2.2 i) (g_A Γ) Γ.2.1 Γ.2.1.heap) ∧
  (∀ i, i < 27 → va_OF RX9 "kept" "Z" (.int (wkept i)) (Γ.2.2.2.2 i) (g_A Γ) Γ.2.1 Γ.2.1.heap) ∧
  va_Z RX10 "ORDERS" "[I" (.ref (Γ.2.2.2.2 28)) (g_A Γ) Γ.2.1 Γ.2.1.heap ∧
  va_T .int (Γ.2.2.2.2 28) 5 (fun j => .int (gorders j)) (g_A Γ) Γ.2.1 Γ.2.1.heap ∧
  va_O RJ0 (Γ.2.2.2.2 29) (g_A Γ) Γ.2.1 Γ.2.1.heap ∧
  va_OF RJ0 "value" "[B" (.ref (Γ.2.2.2.2 30)) (Γ.2.2.2.2 29) (g_A Γ) Γ.2.1 Γ.2.1.heap ∧
  va_OF RJ0 "coder" "B" (.int 0) (Γ.2.2.2.2 29) (g_A Γ) Γ.2.1 Γ.2.1.heap ∧
  va_T .byte (Γ.2.2.2.2 30) 8 (fun j => .int (gsingles j)) (g_A Γ) Γ.2.1 Γ.2.1.heap ∧
  va_Z RJ0 "COMPACT_STRINGS" "Z" (.int 1) (g_A Γ) Γ.2.1 Γ.2.1.heap ∧
  (∀ i j, i < 27 → j < 27 → Γ.2.2.2.2 i = Γ.2.2.2.2 j → i = j)
section GS
variable {Γ : GX} {y : MethodName} {cc : ByteArray} {nL : Nat} {rt : Option FieldType} {rb : GR} {pc : Nat} {lv lv' : List (Option Value)} {st st0 : List Value} {h : PH} {cs : Nat × Nat} {Q : Option Value → PH → Prop} {Ω : List Frame → Array Value → State → State → Prop}
variable {idx a : Nat} {i : Int32} {host : String}
theorem g_old {p : Program} {s : State} {m : MethodId} {args : Array Value} {meth : Method} {c : Code} (C : g_ctx Γ y cc nL rt p s m args meth c) : ∀ a : Nat, a < Γ.2.1.heap.size → ¬ g_A Γ a → s.heap[a]? = Γ.2.1.heap[a]? := fun a ha _ => C.2.2.2.2.2.2.2.2.2.2.1 a ha
theorem g_alk {p : Program} {s : State} {m : MethodId} {args : Array Value} {meth : Method} {c : Code} (C : g_ctx Γ y cc nL rt p s m args meth c) : Γ.2.1.vm.Alike s.vm := C.2.2.2.2.2.2.2.2.2.1.1
theorem G_gets {K n d : String} {v : Value} (hz : va_Z K n d v (g_A Γ) Γ.2.1 Γ.2.1.heap) (hl : Cond.fieldLink y.cls idx K n d ∈ g_tb) (hd : decode cc pc = .ok (.getstatic idx, 3)) (kk : GZ Γ Ω y cc nL rt rb (pc + 3) lv (v :: st) h cs) : GZ Γ Ω y cc nL rt rb pc lv st h cs := by
  intro p e s m args below meth c C ls H locs hlv hH hS
  exact va_gets C.1 C.2.1 ((hz.kept (g_old C)).moved (g_alk C)) hS C.2.2.2.2.2.1 (C.2.2.2.2.1 _ hl) (fun _ q => q) hd (kk p e s m args below meth c C ls H locs hlv hH hS)
theorem G_hW {k : Nat} (kk : GZ Γ Ω y cc nL rt rb pc lv (.ref (hW h k) :: st) h cs) : GZ Γ Ω y cc nL rt rb pc lv (.ref (Γ.2.2.2.2 k) :: st) h cs := by
  intro p e s m args below meth c C ls H locs hlv hH hS
  have := kk p e s m args below meth c C ls H locs hlv hH hS
  rw [hH.2.2.2] at this
  exact this
theorem G_getsR {K n d : String} {k : Nat} (hz : va_Z K n d (.ref (Γ.2.2.2.2 k)) (g_A Γ) Γ.2.1 Γ.2.1.heap) (hl : Cond.fieldLink y.cls idx K n d ∈ g_tb) (hd : decode cc pc = .ok (.getstatic idx, 3)) (kk : GZ Γ Ω y cc nL rt rb (pc + 3) lv (.ref (hW h k) :: st) h cs) : GZ Γ Ω y cc nL rt rb pc lv st h cs := G_gets hz hl hd (G_hW kk)
theorem G_getsW (hs : SF Γ) (k : Nat) {n : String} (hn : wname k = n) (hk : k < 27) (hl : Cond.fieldLink y.cls idx RX9 n "LOneSmoke$Word;" ∈ g_tb) (hd : decode cc pc = .ok (.getstatic idx, 3)) (kk : GZ Γ Ω y cc nL rt rb (pc + 3) lv (.ref (hW h k) :: st) h cs) : GZ Γ Ω y cc nL rt rb pc lv st h cs := by
  subst hn
  exact G_getsR (hs.1 k hk) hl hd kk
/-- a field of a constant object -/
theorem G_getOF {K n d : String} {v : Value} {q : Nat} (hz : va_OF K n d v q (g_A Γ) Γ.2.1 Γ.2.1.heap) (hl : Cond.fieldLink y.cls idx K n d ∈ g_tb) (hd : decode cc pc = .ok (.getfield idx, 3)) (kk : GZ Γ Ω y cc nL rt rb (pc + 3) lv (v :: st) h cs) : GZ Γ Ω y cc nL rt rb pc lv (.ref q :: st) h cs := by
  intro p e s m args below meth c C ls H locs hlv hH hS
  exact vk_getf C.1 C.2.1 ((hz.kept (g_old C)).moved (g_alk C)) hS C.2.2.2.2.2.1 (C.2.2.2.2.1 _ hl) (fun _ q => q) hd (kk p e s m args below meth c C ls H locs hlv hH hS)
theorem G_getOFN {K n d : String} {v : Value} {q : Nat} (hz : va_OF K n d v q (g_A Γ) Γ.2.1 Γ.2.1.heap) (hl : Cond.fieldLinkNest y.cls idx K n d host ∈ g_tb) (hd : decode cc pc = .ok (.getfield idx, 3)) (kk : GZ Γ Ω y cc nL rt rb (pc + 3) lv (v :: st) h cs) : GZ Γ Ω y cc nL rt rb pc lv (.ref q :: st) h cs := by
  intro p e s m args below meth c C ls H locs hlv hH hS
  obtain ⟨cf, k, fi, f, cell, h1, h2, h3, h4, h5, h6⟩ := ((hz.kept (g_old C)).moved (g_alk C)).kept hS.2.1
  exact va_Wgetf C.1 C.2.1 C.2.2.2.2.2.1 (C.2.2.2.2.1 _ hl) h1 h2 h3 h4 (v := v) h5 rfl rfl hd (kk p e s m args below meth c C ls H locs hlv hH hS)
theorem g_hW_eq {H : Heap} (hH : g_H Γ h H) (k : Nat) : hW h k = Γ.2.2.2.2 k := by rw [hH.2.2.2]
/-- under a heap that has the constants where Γ has them -/
theorem G_W (kk : hW h = Γ.2.2.2.2 → GZ Γ Ω y cc nL rt rb pc lv st h cs) : GZ Γ Ω y cc nL rt rb pc lv st h cs :=
  fun p e s m args below meth c C ls H locs hlv hH hS => kk hH.2.2.2 p e s m args below meth c C ls H locs hlv hH hS
theorem G_wcode (hs : SF Γ) {k : Nat} (hk : wix h a = some k) (hl : Cond.fieldLink y.cls idx RX9 "code" "J" ∈ g_tb) (hd : decode cc pc = .ok (.getfield idx, 3)) (kk : GZ Γ Ω y cc nL rt rb (pc + 3) lv (.long (wcode k) :: st) h cs) : GZ Γ Ω y cc nL rt rb pc lv (.ref a :: st) h cs := by
  obtain ⟨h1, h2⟩ := wix_at hk
  refine G_W fun hW => ?_
  rw [h2, hW]
  exact G_getOF (hs.2.2.2.1 k h1) hl hd kk
theorem G_wkept (hs : SF Γ) {k : Nat} (hk : wix h a = some k) (hl : Cond.fieldLinkNest y.cls idx RX9 "kept" "Z" host ∈ g_tb) (hd : decode cc pc = .ok (.getfield idx, 3)) (kk : GZ Γ Ω y cc nL rt rb (pc + 3) lv (.int (wkept k) :: st) h cs) : GZ Γ Ω y cc nL rt rb pc lv (.ref a :: st) h cs := by
  obtain ⟨h1, h2⟩ := wix_at hk
  refine G_W fun hW => ?_
  rw [h2, hW]
  exact G_getOFN (hs.2.2.2.2.1 k h1) hl hd kk
theorem G_wall (hs : SF Γ) (hd : decode cc pc = .ok (.aaload, 1)) (hin : inb i 27) (kk : GZ Γ Ω y cc nL rt rb (pc + 1) lv (.ref (hW h (ix i)) :: st) h cs) : GZ Γ Ω y cc nL rt rb pc lv (.int i :: .ref (hW h 27) :: st) h cs := by
  refine G_W fun hWe => ?_
  intro p e s m args below meth c C ls H locs hlv hH hS
  rw [hWe]
  refine vb_tq C.1 C.2.1 ((hs.2.2.1.kept (g_old C)).moved (g_alk C)) hS hin rfl hd ?_
  have := kk p e s m args below meth c C ls H locs hlv hH hS
  rw [hWe] at this
  exact this
theorem G_wlen (hs : SF Γ) (hd : decode cc pc = .ok (.arraylength, 1)) (kk : GZ Γ Ω y cc nL rt rb (pc + 1) lv (.int 27 :: st) h cs) : GZ Γ Ω y cc nL rt rb pc lv (.ref (hW h 27) :: st) h cs := by
  refine G_W fun hWe => ?_
  intro p e s m args below meth c C ls H locs hlv hH hS
  rw [hWe]
  exact va_tlen C.1 C.2.1 ((hs.2.2.1.kept (g_old C)).moved (g_alk C)) hS rfl hd (kk p e s m args below meth c C ls H locs hlv hH hS)
theorem G_oload (hs : SF Γ) (hd : decode cc pc = .ok (.iaload, 1)) (hin : inb i 5) (kk : GZ Γ Ω y cc nL rt rb (pc + 1) lv (.int (gorders (ix i)) :: st) h cs) : GZ Γ Ω y cc nL rt rb pc lv (.int i :: .ref (hW h 28) :: st) h cs := by
  refine G_W fun hWe => ?_
  intro p e s m args below meth c C ls H locs hlv hH hS
  rw [hWe]
  exact va_ti C.1 C.2.1 ((hs.2.2.2.2.2.2.1.kept (g_old C)).moved (g_alk C)) hS hin rfl hd (kk p e s m args below meth c C ls H locs hlv hH hS)
theorem G_olen (hs : SF Γ) (hd : decode cc pc = .ok (.arraylength, 1)) (kk : GZ Γ Ω y cc nL rt rb (pc + 1) lv (.int 5 :: st) h cs) : GZ Γ Ω y cc nL rt rb pc lv (.ref (hW h 28) :: st) h cs := by
  refine G_W fun hWe => ?_
  intro p e s m args below meth c C ls H locs hlv hH hS
  rw [hWe]
  exact va_tlen C.1 C.2.1 ((hs.2.2.2.2.2.2.1.kept (g_old C)).moved (g_alk C)) hS rfl hd (kk p e s m args below meth c C ls H locs hlv hH hS)
theorem G_ldcS (hy : y.cls = RX5) (hd : decode cc pc = .ok (.ldc 88, 2)) (kk : GZ Γ Ω y cc nL rt rb (pc + 2) lv (.ref (hW h 29) :: st) h cs) : GZ Γ Ω y cc nL rt rb pc lv st h cs := by
  refine G_W fun hWe => ?_
  intro p e s m args below meth c C ls H locs hlv hH hS
  have := kk p e s m args below meth c C ls H locs hlv hH hS
  rw [hWe] at this
  exact va_ldcS C.1 C.2.1 (hy ▸ C.2.2.2.2.2.1) C.2.2.2.2.2.2.2.2.2.1.2.1 hd this
theorem G_svalue (hs : SF Γ) (ha : a = hW h 29) (hl : Cond.fieldLink y.cls idx RJ0 "value" "[B" ∈ g_tb) (hd : decode cc pc = .ok (.getfield idx, 3)) (kk : GZ Γ Ω y cc nL rt rb (pc + 3) lv (.ref (hW h 30) :: st) h cs) : GZ Γ Ω y cc nL rt rb pc lv (.ref a :: st) h cs := by
  refine G_W fun hWe => ?_
  rw [ha]
  rw [hWe] at kk ⊢
  exact G_getOF hs.2.2.2.2.2.2.2.2.1 hl hd kk
theorem G_scoder (hs : SF Γ) (ha : a = hW h 29) (hl : Cond.fieldLink y.cls idx RJ0 "coder" "B" ∈ g_tb) (hd : decode cc pc = .ok (.getfield idx, 3)) (kk : GZ Γ Ω y cc nL rt rb (pc + 3) lv (.int 0 :: st) h cs) : GZ Γ Ω y cc nL rt rb pc lv (.ref a :: st) h cs := by
  refine G_W fun hWe => ?_
  rw [ha]
  rw [hWe]
  exact G_getOF hs.2.2.2.2.2.2.2.2.2.1 hl hd kk
theorem G_sbyte (hs : SF Γ) (ha : a = hW h 30) (hd : decode cc pc = .ok (.baload, 1)) (hin : inb i 8) (kk : GZ Γ Ω y cc nL rt rb (pc + 1) lv (.int (gsingles (ix i)) :: st) h cs) : GZ Γ Ω y cc nL rt rb pc lv (.int i :: .ref a :: st) h cs := by
  refine G_W fun hWe => ?_
  intro p e s m args below meth c C ls H locs hlv hH hS
  rw [ha, hWe]
  exact va_tb C.1 C.2.1 ((hs.2.2.2.2.2.2.2.2.2.2.1.kept (g_old C)).moved (g_alk C)) hS hin rfl hd (kk p e s m args below meth c C ls H locs hlv hH hS)
theorem G_slen (hs : SF Γ) (ha : a = hW h 30) (hd : decode cc pc = .ok (.arraylength, 1)) (kk : GZ Γ Ω y cc nL rt rb (pc + 1) lv (.int 8 :: st) h cs) : GZ Γ Ω y cc nL rt rb pc lv (.ref a :: st) h cs := by
  refine G_W fun hWe => ?_
  intro p e s m args below meth c C ls H locs hlv hH hS
  rw [ha, hWe]
  exact va_tlen C.1 C.2.1 ((hs.2.2.2.2.2.2.2.2.2.2.1.kept (g_old C)).moved (g_alk C)) hS rfl hd (kk p e s m args below meth c C ls H locs hlv hH hS)
theorem G_compact (hs : SF Γ) (hl : Cond.fieldLink y.cls idx RJ0 "COMPACT_STRINGS" "Z" ∈ g_tb) (hd : decode cc pc = .ok (.getstatic idx, 3)) (kk : GZ Γ Ω y cc nL rt rb (pc + 3) lv (.int 1 :: st) h cs) : GZ Γ Ω y cc nL rt rb pc lv st h cs := G_gets hs.2.2.2.2.2.2.2.2.2.2.2.1 hl hd kk
theorem g_recvS {p : Program} {s : State} {m : MethodId} {args : Array Value} {meth : Method} {c : Code} {H : Heap} {locs : List Loc} (C : g_ctx Γ y cc nL rt p s m args meth c) (hs : SF Γ) (hH : g_H Γ h H) (hS : va_S (g_A Γ) s.heap H locs) (ha : a = hW h 29) : ∃ cell : Cell, H[a]? = some cell ∧ cell.vm.isStatics = false ∧ s.vm.findClass RJ0 = some cell.cls := by
  rw [ha, hH.2.2.2]
  exact va_Orecv ((hs.2.2.2.2.2.2.2.1.kept (g_old C)).moved (g_alk C)) hS
theorem G_callVS {y2 : MethodName} {cc2 : ByteArray} {nL2 : Nat} {rt2 : Option FieldType} {rb2 : GR} {Q2 : Option Value → PH → Prop} {As : List Value} {n b : Nat} (hs : SF Γ) (S2 : Spec Γ y2 cc2 nL2 rt2 rb2 (.ref b :: As) h Q2) (hc : g_cal y2 cc2 nL2 rt2 n) (hi : Cond.instanceMethod y2 ∈ g_tb) (hsel : Cond.selects RJ0 y2 y2 ∈ g_tb) (hl2 : Cond.methodLink y.cls idx y2 ∈ g_tb) (hb : b = hW h 29) (hd2 : rb2.1 + 1 ≤ rb.1) (hm : nL2 ≤ 45) (hn : As.length = n) (hw : (st.map fun v => v.category).sum ≤ 8) (h1 : cs.1 + rb2.2.1 ≤ rb.2.1) (h2 : cs.2 + rb2.2.2 ≤ rb.2.2) (hd : decode cc pc = .ok (.invokevirtual idx, 3)) (hst : st0 = As.reverse ++ .ref b :: st) (kk : ∀ (v : Option Value) (h1 : PH), Q2 v h1 → GZ Γ Ω y cc nL rt rb (pc + 3) lv (v.toList ++ st) h1 (cs.1 + rb2.2.1, cs.2 + rb2.2.2)) : GZ Γ Ω y cc nL rt rb pc lv st0 h cs := by
  intro p e s m args below meth c C ls H locs hl hH hS
  refine g_call (va_runV (As := As) (rest := st) (b := b) (C := RJ0) (n := n) ⟨C.1, C.2.1, C.2.2.2.1, C.2.2.2.2.2.1, C.2.2.2.2.1⟩ S2 ⟨g_calB C hc hd2 hm hl2, C.2.2.2.2.1 _ hi, C.2.2.2.2.1 _ hsel⟩ ⟨g_blind _, g_recvS C hs hH hS hb, fun U hU hW => ⟨rfl, World.of C hH hS hU hW⟩⟩ rfl hn hl.1 hst (g_rest hw) hd ⟨h1, h2⟩) hS fun v h1' H1 locs1 hq hH1 hS1 => ?_
  exact kk v h1' hq p e s m args below meth c C ls H1 locs1 hl hH1 hS1
end GS
