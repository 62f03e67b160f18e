/-! The judgement G: a method at a program counter, with locals and stack as lists, in a typed heap; it comes to its end with Q of answer and heap. -/
def g_nest : Cond → Bool
  | .fieldLinkNest .. => true
  | .methodLinkNest .. => true
  | .arrayOver (.object _) => true
  | .declares .. => true
  | .castable .. => true
  | _ => false
def g_ok (w : Cond) : Bool := goodWord w || g_nest w
def g_tb : List Cond := lw_tbl.filter g_ok
theorem g_in {w : Cond} (i : Nat) (h : lw_tbl[i]? = some w) (h2 : g_ok w = true) : w ∈ g_tb := List.mem_filter.mpr ⟨List.mem_of_getElem? h, h2⟩
theorem g_warm {w : Cond} {args a' : Array Value} {s U : State} (hw : w ∈ g_tb) (h : w.before args s = true) (hW : s.WarmedH U.vm) : w.before a' U = true := by
  have h2 : g_ok w = true := (List.mem_filter.mp hw).2
  unfold g_ok at h2
  rw [Bool.or_eq_true] at h2
  rcases h2 with h2 | h2
  · exact word_at hW (good_of_word h2) h
  · cases w with
    | fieldLinkNest a i b n d z => exact va_Nw.use rfl (va_Nw.warmF hW (va_Nw.of rfl h))
    | methodLinkNest a i x z => exact va_Nw.use rfl (va_Nw.warmM hW (va_Nw.of rfl h))
    | declares x => exact va_Nw.use rfl (va_Nw.warmD hW (va_Nw.of rfl h))
    | castable a b => exact va_Nw.use rfl (va_Nw.warmC hW (va_Nw.of rfl h))
    | arrayOver ty =>
      cases ty with
      | object K => exact va_AO.use (va_AO.moved hW.alike (va_AO.of h))
      | _ => cases h2
    | _ => cases h2
/-- the locals: known values by their places -/
def g_lv (ls : Array Slot) (nL : Nat) (lv : List (Option Value)) : Prop := ls.size = nL ∧ lv_wf ls ∧ ∀ (i : Nat) (v : Value), lv[i]? = some (some v) → ls[i]? = some (.val v)
def g_prs (lv : List (Option Value)) : List (Nat × Value) := (List.range lv.length).filterMap (fun i => (lv.getD i none).map (fun v => (i, v)))
theorem g_prs_mem {lv : List (Option Value)} {i : Nat} {v : Value} : (i, v) ∈ g_prs lv ↔ lv[i]? = some (some v) := by
  unfold g_prs
  rw [List.mem_filterMap]
  constructor
  · rintro ⟨j, hj, he⟩
    have hl : j < lv.length := List.mem_range.mp hj
    rw [Option.map_eq_some_iff] at he
    obtain ⟨w, h1, h2⟩ := he
    cases h2
    rw [List.getD_eq_getElem?_getD] at h1
    rw [List.getElem?_eq_getElem hl] at h1 ⊢
    simpa using h1
  · intro h
    have hl := (List.getElem?_eq_some_iff.mp h).1
    refine ⟨i, List.mem_range.mpr hl, ?_⟩
    rw [List.getD_eq_getElem?_getD, h]
    rfl
theorem g_lv.has {ls : Array Slot} {nL : Nat} {lv : List (Option Value)} (h : g_lv ls nL lv) : lv_has ls nL (g_prs lv) := ⟨h.1, h.2.1, fun q hq => h.2.2 q.1 q.2 (g_prs_mem.mp hq)⟩
theorem g_lv.of {ls : Array Slot} {nL : Nat} {lv : List (Option Value)} {l : List (Nat × Value)} (h : lv_has ls nL l) (hs : ∀ (i : Nat) (v : Value), lv[i]? = some (some v) → (i, v) ∈ l) : g_lv ls nL lv := ⟨h.1, h.2.1, fun i v hv => h.2.2 (i, v) (hs i v hv)⟩
theorem g_lv.sub {ls : Array Slot} {nL : Nat} {lv lv' : List (Option Value)} (h : g_lv ls nL lv) (hs : ∀ (i : Nat) (v : Value), lv'[i]? = some (some v) → lv[i]? = some (some v)) : g_lv ls nL lv' := ⟨h.1, h.2.1, fun i v hv => h.2.2 i v (hs i v hv)⟩
/-- fewer known locals -/
def g_le : List (Option Value) → List (Option Value) → Prop
  | [], _ => True
  | none :: l, _ :: l' => g_le l l'
  | none :: l, [] => g_le l []
  | some v :: l, w :: l' => w = some v ∧ g_le l l'
  | some _ :: _, [] => False
theorem g_le_at : ∀ (l l' : List (Option Value)), g_le l l' → ∀ (i : Nat) (v : Value), l[i]? = some (some v) → l'[i]? = some (some v)
  | [], _, _, i, v, h => by simp at h
  | none :: l, w :: l', hh, i, v, h => by
    cases i with
    | zero => simp at h
    | succ i => exact g_le_at l l' hh i v (by simpa using h)
  | none :: l, [], hh, i, v, h => by
    cases i with
    | zero => simp at h
    | succ i =>
      have := g_le_at l [] hh i v (by simpa using h)
      simp at this
  | some u :: l, w :: l', hh, i, v, h => by
    cases i with
    | zero =>
      have h1 : u = v := by simpa using h
      have h2 := hh.1
      subst h1
      simpa using h2
    | succ i =>
      have := g_le_at l l' hh.2 i v (by simpa using h)
      simpa using this
  | some u :: l, [], hh, i, v, h => hh.elim
def g_clr (lv : List (Option Value)) (i : Nat) : List (Option Value) := match i with
  | 0 => lv
  | j + 1 => match lv[j]? with
    | some (some w) => if w.category = 2 then lv.set j none else lv
    | _ => lv
def g_st1 (lv : List (Option Value)) (i : Nat) (v : Value) : List (Option Value) := (g_clr lv i).set i (some v)
def g_st2 (lv : List (Option Value)) (i : Nat) (v : Value) : List (Option Value) := ((g_clr lv i).set i (some v)).set (i + 1) none
theorem g_clr_at {lv : List (Option Value)} {i j : Nat} {v : Value} (h : (g_clr lv i)[j]? = some (some v)) (hj : j ≠ i) : lv[j]? = some (some v) ∧ ¬ (j + 1 = i ∧ v.category = 2) := by
  cases i with
  | zero => exact ⟨h, fun q => by omega⟩
  | succ n =>
    unfold g_clr at h
    dsimp only at h
    cases hx : lv[n]? with
    | none =>
      rw [hx] at h
      refine ⟨h, fun q => ?_⟩
      have : j = n := by omega
      subst this
      have h' : lv[j]? = some (some v) := h
      rw [hx] at h'; cases h'
    | some o =>
      rw [hx] at h
      cases o with
      | none =>
        refine ⟨h, fun q => ?_⟩
        have : j = n := by omega
        subst this
        have h' : lv[j]? = some (some v) := h
        rw [hx] at h'; cases h'
      | some w =>
        by_cases hc : w.category = 2
        · have h' : (lv.set n none)[j]? = some (some v) := by simpa [hc] using h
          by_cases hjn : j = n
          · subst hjn
            have hl : j < lv.length := (List.getElem?_eq_some_iff.mp hx).1
            rw [List.getElem?_set_self hl] at h'
            cases h'
          · rw [List.getElem?_set_ne (fun q => hjn q.symm)] at h'
            exact ⟨h', fun q => hjn (by omega)⟩
        · have h' : lv[j]? = some (some v) := by simpa [hc] using h
          refine ⟨h', fun q => ?_⟩
          have : j = n := by omega
          subst this
          rw [hx] at h'
          cases h'
          exact hc q.2
theorem g_lv.st1 {ls' : Array Slot} {nL i : Nat} {v : Value} {lv lv' : List (Option Value)} (h : lv_has ls' nL ((i, v) :: (g_prs lv).filter (fun q => !(q.1 == i) && !(q.1 + 1 == i && q.2.category == 2)))) (he : g_st1 lv i v = lv') : g_lv ls' nL lv' := by
  subst he
  refine g_lv.of h fun j w hw => ?_
  by_cases hj : j = i
  · subst hj
    have hl : j < (g_clr lv j).length := by
      have := (List.getElem?_eq_some_iff.mp hw).1
      simpa [g_st1] using this
    unfold g_st1 at hw
    rw [List.getElem?_set_self hl] at hw
    cases hw
    exact List.mem_cons_self
  · unfold g_st1 at hw
    rw [List.getElem?_set_ne (fun q => hj q.symm)] at hw
    obtain ⟨h1, h2⟩ := g_clr_at hw hj
    refine List.mem_cons_of_mem _ (List.mem_filter.mpr ⟨g_prs_mem.mpr h1, ?_⟩)
    simp only [Bool.and_eq_true, Bool.not_eq_true', beq_eq_false_iff_ne, ne_eq, Bool.and_eq_false_iff]
    refine ⟨hj, ?_⟩
    by_cases hz : j + 1 = i
    · exact Or.inr (fun q => h2 ⟨hz, q⟩)
    · exact Or.inl hz
theorem g_lv.st2 {ls' : Array Slot} {nL i : Nat} {v : Value} {lv lv' : List (Option Value)} (h : lv_has ls' nL ((i, v) :: (g_prs lv).filter (fun q => !(q.1 == i) && (!(q.1 == i + 1) && !(q.1 + 1 == i && q.2.category == 2))))) (he : g_st2 lv i v = lv') : g_lv ls' nL lv' := by
  subst he
  refine g_lv.of h fun j w hw => ?_
  unfold g_st2 at hw
  by_cases hj1 : j = i + 1
  · subst hj1
    have hl := (List.getElem?_eq_some_iff.mp hw).1
    rw [List.getElem?_set_self (by simpa using hl)] at hw
    cases hw
  · rw [List.getElem?_set_ne (fun q => hj1 q.symm)] at hw
    by_cases hj : j = i
    · subst hj
      have hl : j < (g_clr lv j).length := by
        have := (List.getElem?_eq_some_iff.mp hw).1
        simpa using this
      rw [List.getElem?_set_self hl] at hw
      cases hw
      exact List.mem_cons_self
    · rw [List.getElem?_set_ne (fun q => hj q.symm)] at hw
      obtain ⟨h1, h2⟩ := g_clr_at hw hj
      refine List.mem_cons_of_mem _ (List.mem_filter.mpr ⟨g_prs_mem.mpr h1, ?_⟩)
      simp only [Bool.and_eq_true, Bool.not_eq_true', beq_eq_false_iff_ne, ne_eq, Bool.and_eq_false_iff]
      refine ⟨hj, hj1, ?_⟩
      by_cases hz : j + 1 = i
      · exact Or.inr (fun q => h2 ⟨hz, q⟩)
      · exact Or.inl hz
/-- depth, cells, slots -/
abbrev GR : Type := Nat × Nat × Nat
def g_room (rb : GR) : Room := { frames := rb.1, cells := rb.2.1, slots := rb.2.2, locals := 64 * rb.1 }
def World (Γ : GX) (h : PH) (U : State) : Prop := g_H Γ h U.heap ∧ Γ.2.1.heap.size ≤ U.heap.size ∧ va_K Γ.2.2.1 vwCl (g_tys Γ.2.2.2.1) U ∧ (∀ q : Nat, q < Γ.2.1.heap.size → U.heap[q]? = Γ.2.1.heap[q]?) ∧ (Γ.2.1.vm.Alike U.vm ∧ vk_R RX5 88 "()<=+-*;" (Γ.2.2.2.2 29) U)
def g_post (Γ : GX) (Q : Option Value → PH → Prop) : Array Value → State → Outcome → State → Prop := fun _ st o t => (∃ (v : Option Value) (h' : PH), o = .returned v ∧ Q v h' ∧ World Γ h' t) ∧ va_F (g_A Γ) st t
/-- a method has no handlers, but for the law's own 'rests' -/
def g_tab (y : MethodName) (c : Code) : Prop := (y ≠ yL_rests ∧ ∀ x ∈ c.exceptionTable.toList, False) ∨ (y = yL_rests ∧ c.exceptionTable.toList = tableOf [(0, 18, 21, 13)])
def g_ctx (Γ : GX) (y : MethodName) (cc : ByteArray) (nL : Nat) (rt : Option FieldType) (p : Program) (s : State) (m : MethodId) (args : Array Value) (meth : Method) (c : Code) : Prop :=
  p.tables.exec = Jvm.exec ∧ c.code = cc ∧ meth.sig.returnType = rt ∧ c.maxLocals = nL ∧ (∀ w ∈ g_tb, w.before args s = true) ∧ s.vm.findClass y.cls = some m.cls ∧ meth.locks = false ∧ meth.name = y.name ∧ va_K Γ.2.2.1 vwCl (g_tys Γ.2.2.2.1) s ∧ (Γ.2.1.vm.Alike s.vm ∧ vk_R RX5 88 "()<=+-*;" (Γ.2.2.2.2 29) s ∧ g_tab y c) ∧ (∀ q : Nat, q < Γ.2.1.heap.size → s.heap[q]? = Γ.2.1.heap[q]?) ∧ Γ.2.1.heap.size ≤ s.heap.size
def GZ (Γ : GX) (F : List Frame → Array Value → State → State → Prop) (y : MethodName) (cc : ByteArray) (nL : Nat) (rt : Option FieldType) (rb : GR) (pc : Nat) (lv : List (Option Value)) (st : List Value) (h : PH) (cs : Nat × Nat) : Prop :=
  ∀ (p : Program) (e : Env) (s : State) (m : MethodId) (args : Array Value) (below : List Frame) (meth : Method) (c : Code), g_ctx Γ y cc nL rt p s m args meth c →
    ∀ (ls : Array Slot) (H : Heap) (locs : List Loc), g_lv ls nL lv → g_H Γ h H → va_S (g_A Γ) s.heap H locs →
      W p Γ.1 e (g_room rb) s m args below meth c H locs cs.1 cs.2 (F below args s) (F0 m pc ls st)
/-- what a method that returns owes at its end -/
def g_fin (Γ : GX) (rb : GR) (Q : Option Value → PH → Prop) : List Frame → Array Value → State → State → Prop := fun below args s => MQ below (g_post Γ Q) args s rb.2.1 rb.2.2 (g_A Γ)
abbrev G (Γ : GX) (y : MethodName) (cc : ByteArray) (nL : Nat) (rt : Option FieldType) (rb : GR) (pc : Nat) (lv : List (Option Value)) (st : List Value) (h : PH) (cs : Nat × Nat) (Q : Option Value → PH → Prop) : Prop :=
  GZ Γ (g_fin Γ rb Q) y cc nL rt rb pc lv st h cs
/-- a method's contract at these arguments and this heap -/
def Spec (Γ : GX) (y : MethodName) (cc : ByteArray) (nL : Nat) (rt : Option FieldType) (rb : GR) (av : List Value) (h : PH) (Q : Option Value → PH → Prop) : Prop :=
  Met Γ.1 y (Cond.code y cc nL rt :: g_tb) (g_room rb) (va_Pc av (World Γ h)) (g_post Γ Q) rb.2.1 rb.2.2 (g_A Γ)
section GJ
variable {Γ : GX} {y : MethodName} {cc : ByteArray} {nL : Nat} {rt : Option FieldType} {rb : GR} {pc : Nat} {lv : List (Option Value)} {st : List Value} {h : PH} {cs : Nat × Nat} {Q : Option Value → PH → Prop} {Ω : List Frame → Array Value → State → State → Prop}
theorem World.of {p : Program} {s : State} {m : MethodId} {args : Array Value} {meth : Method} {c : Code} {H : Heap} {locs : List Loc} (C : g_ctx Γ y cc nL rt p s m args meth c) (hH : g_H Γ h H) (hS : va_S (g_A Γ) s.heap H locs) {t : State} (ht : t.heap = H) (hW : s.WarmedH t.vm) : World Γ h t := by
  obtain ⟨-, -, -, -, -, -, -, -, hK, hal, hold, hlo⟩ := C
  refine ⟨by rw [ht]; exact hH, by rw [ht]; exact Nat.le_trans hlo hS.1, va_K.moved hW.alike hK, fun q hq => ?_, hal.1.trans hW.alike, hal.2.1.warm hW⟩
  rw [ht, hS.2.1 q (Nat.lt_of_lt_of_le hq hlo) (fun z => absurd z (Nat.not_le.mpr hq))]
  exact hold q hq
theorem Spec.of (hy : plainName y.cls = true) {av : List Value} (hn : (lg_sl av).length ≤ nL) (lv : List (Option Value)) (hlv : g_prs lv = lv_args 0 av) (hG : G Γ y cc nL rt rb 0 lv [] h (0, 0) Q) (hne : y ≠ yL_rests := by decide) : Spec Γ y cc nL rt rb av h Q := by
  refine Met.ofW (cc := cc) (maxL := nL) (ret := rt) hy rfl ?_
  intro p e s m args below meth c s₁ B hml hv
  obtain ⟨rfl, hH, hlo, hK, hold, hal⟩ := hv
  have hts := atoms_spec (ws := Cond.code y cc nL rt :: g_tb) B.pre
  have ht : ∀ x ∈ c.exceptionTable.toList, False := by
    obtain ⟨meth9, c9, h1, h2, -, -, -, -, h7, -⟩ := Cond.code_spec B.named (hts _ List.mem_cons_self)
    cases Option.some.inj (h1.symm.trans B.method)
    cases Option.some.inj (h2.symm.trans (Stand.of_body B).code)
    intro x hx
    rw [Array.isEmpty_iff.mp h7] at hx
    cases hx
  have C : g_ctx Γ y cc nL rt p s m av.toArray meth c := ⟨B.exec, B.bytes, B.returns, hml, fun w hw => hts w (List.mem_cons_of_mem _ hw), findClass_of_methodNamed B.named, B.notSynchronized, (name_of_methodNamed B.named B.method).1, hK, ⟨hal.1, hal.2, Or.inl ⟨hne, ht⟩⟩, hold, hlo⟩
  have hl := lv_entry av (n := nL) hn
  rw [lg_entry_eq]
  exact hG p e s m av.toArray below meth c C _ s.heap [] (g_lv.of hl fun i v h => by rw [← hlv]; exact g_prs_mem.mpr h) hH va_S.rf
theorem G.less (lv' : List (Option Value)) (hs : g_le lv' lv) (k : GZ Γ Ω y cc nL rt rb pc lv' st h cs) : GZ Γ Ω y cc nL rt rb pc lv st h cs :=
  fun p e s m args below meth c C ls H locs hl hH hS => k p e s m args below meth c C ls H locs (hl.sub (g_le_at lv' lv hs)) hH hS
theorem G.mono {Q' : Option Value → PH → Prop} (hQ : ∀ v h', Q v h' → Q' v h') (k : G Γ y cc nL rt rb pc lv st h cs Q) : G Γ y cc nL rt rb pc lv st h cs Q' := by
  intro p e s m args below meth c C ls H locs hl hH hS T hT X
  obtain ⟨t, a, o, b1, b2, ⟨⟨v, h', e1, e2, e3⟩, hF⟩, b4⟩ := k p e s m args below meth c C ls H locs hl hH hS T hT X
  exact ⟨t, a, o, b1, b2, ⟨⟨v, h', e1, hQ v h' e2, e3⟩, hF⟩, b4⟩
theorem G.he {h' : PH} (e : h = h') (k : GZ Γ Ω y cc nL rt rb pc lv st h' cs) : GZ Γ Ω y cc nL rt rb pc lv st h cs := e ▸ k
theorem G.nmh {e : PH} (k : ∀ h', h' = e → GZ Γ Ω y cc nL rt rb pc lv st h' cs) : GZ Γ Ω y cc nL rt rb pc lv st e cs := k e rfl
theorem G.topi {x : Int32} (k : ∀ z : Int32, z = x → GZ Γ Ω y cc nL rt rb pc lv (.int z :: st) h cs) : GZ Γ Ω y cc nL rt rb pc lv (.int x :: st) h cs := k x rfl
theorem G.topl {x : Int64} (k : ∀ z : Int64, z = x → GZ Γ Ω y cc nL rt rb pc lv (.long z :: st) h cs) : GZ Γ Ω y cc nL rt rb pc lv (.long x :: st) h cs := k x rfl
theorem G.topr {x : Option Nat} (k : ∀ z : Option Nat, z = x → GZ Γ Ω y cc nL rt rb pc lv (va_rf z :: st) h cs) : GZ Γ Ω y cc nL rt rb pc lv (va_rf x :: st) h cs := k x rfl
/-- a reference that is not null -/
theorem G.sure {x : Option Nat} {a : Nat} (hx : x = some a) (k : GZ Γ Ω y cc nL rt rb pc lv (.ref a :: st) h cs) : GZ Γ Ω y cc nL rt rb pc lv (va_rf x :: st) h cs := by rw [hx]; exact k
/-- behind a call -/
theorem g_call {p : Program} {e : Env} {s : State} {m : MethodId} {args : Array Value} {below : List Frame} {meth : Method} {c : Code} {H : Heap} {locs : List Loc} {R : Room} {cells slots mc ms : Nat} {Z : State → Prop} {ls : Array Slot} {st0 rest : List Value} {a : Array Value} {Q2 : Option Value → PH → Prop}
    (hr : va_Run p Γ.1 e R s m args below meth c H locs cells slots mc ms (F0 m pc ls st0) rest (g_post Γ Q2 a) (g_A Γ)) (hS : va_S (g_A Γ) s.heap H locs)
    (kk : ∀ (v : Option Value) (h1 : PH) (H1 : Heap) (locs1 : List Loc), Q2 v h1 → g_H Γ h1 H1 → va_S (g_A Γ) s.heap H1 locs1 → W p Γ.1 e R s m args below meth c H1 locs1 (cells + mc) (slots + ms) Z (F0 m (pc + 3) ls (v.toList ++ rest))) : W p Γ.1 e R s m args below meth c H locs cells slots Z (F0 m pc ls st0) := by
  intro T hT X
  obtain ⟨v, st₀, t, T', L, h0, X', hL, e1, e2, ⟨⟨v', h1, hv, hq, hw⟩, hz, hk⟩, st⟩ := hr T hT X
  cases hv
  rw [h0] at hz hk
  obtain ⟨t2, a1, b1⟩ := kk v h1 T'.heap (locs ++ L) hq (by rw [e1]; exact hw.1)
    ⟨Nat.le_trans hS.1 (by rw [e1]; exact hz), fun q h1 h2 => by rw [e1, hk q (Nat.lt_of_lt_of_le h1 hS.1) h2]; exact hS.2.1 q h1 h2, fun q hq => by
      rcases List.mem_append.mp hq with h | h
      · exact hS.2.2 q h
      · exact hL q h⟩ T' rfl X'
  exact ⟨t2, st t2 a1, b1⟩
theorem g_blind (av : List Value) : FrameBlind (va_Pc av (World Γ h)) := fun a U g mk hp => ⟨hp.1, hp.2.1, hp.2.2.1, va_K.moved (u := U) (U := U.calling g mk a) (Vm.Alike.refl U.vm) hp.2.2.2.1, hp.2.2.2.2.1, hp.2.2.2.2.2.1, hp.2.2.2.2.2.2.same rfl⟩
/-- a callee's facts: its words stand in the table -/
def g_cal (y : MethodName) (cc : ByteArray) (nL : Nat) (rt : Option FieldType) (n : Nat) : Prop := Cond.code y cc nL rt ∈ g_tb ∧ Cond.initialized y.cls ∈ g_tb ∧ (y.cls ≠ "java/lang/invoke/MethodHandle" ∧ y.cls ≠ "java/lang/invoke/VarHandle") ∧ (parseMethodDescriptor y.desc).map (fun d => d.parameters.length) = some n
theorem g_calB {p : Program} {s : State} {m : MethodId} {args : Array Value} {meth : Method} {c : Code} (C : g_ctx Γ y cc nL rt p s m args meth c) {y2 : MethodName} {cc2 : ByteArray} {nL2 : Nat} {rt2 : Option FieldType} {n idx : Nat} (hc : g_cal y2 cc2 nL2 rt2 n) {rb2 : GR} (hd : rb2.1 + 1 ≤ rb.1) (hm : nL2 ≤ 45) (hl : Cond.methodLink y.cls idx y2 ∈ g_tb) :
    CallB (g_room rb) s args y.cls idx y2 cc2 nL2 rt2 (Cond.code y2 cc2 nL2 rt2 :: g_tb) (g_room rb2) rb2.2.1 rb2.2.2 n := by
  obtain ⟨hx, hb, hr, hml, hts, hown, hlk, hnm, hK, hal, hold, hlo⟩ := C
  obtain ⟨h1, h2, h3, h4⟩ := hc
  refine ⟨rfl, rfl, hd, by show 8 + (nL2 + 11) + 64 * rb2.1 ≤ 64 * rb.1; omega, fun w hw a' U hW => ?_, List.mem_cons_self, hts _ h1, hts _ h2, h3, fun sig hsig => ?_, hts _ hl⟩
  · rcases List.mem_cons.mp hw with rfl | hw
    · exact g_warm h1 (hts _ h1) hW
    · exact g_warm hw (hts _ hw) hW
  · rw [hsig] at h4
    exact (Option.some.inj h4).symm
theorem g_calN {p : Program} {s : State} {m : MethodId} {args : Array Value} {meth : Method} {c : Code} (C : g_ctx Γ y cc nL rt p s m args meth c) {y2 : MethodName} {cc2 : ByteArray} {nL2 : Nat} {rt2 : Option FieldType} {n idx : Nat} {host : String} (hc : g_cal y2 cc2 nL2 rt2 n) {rb2 : GR} (hd : rb2.1 + 1 ≤ rb.1) (hm : nL2 ≤ 45) (hl : Cond.methodLinkNest y.cls idx y2 host ∈ g_tb) :
    va_CN (g_room rb) s args y.cls idx y2 host cc2 nL2 rt2 (Cond.code y2 cc2 nL2 rt2 :: g_tb) (g_room rb2) rb2.2.1 rb2.2.2 n := by
  obtain ⟨hx, hb, hr, hml, hts, hown, hlk, hnm, hK, hal, hold, hlo⟩ := C
  obtain ⟨h1, h2, h3, h4⟩ := hc
  refine ⟨⟨rfl, rfl, hd, by show 8 + (nL2 + 11) + 64 * rb2.1 ≤ 64 * rb.1; omega, fun w hw a' U hW => ?_, List.mem_cons_self⟩, hts _ h1, hts _ h2, h3, fun sig hsig => ?_, hts _ hl⟩
  · rcases List.mem_cons.mp hw with rfl | hw
    · exact g_warm h1 (hts _ h1) hW
    · exact g_warm hw (hts _ hw) hW
  · rw [hsig] at h4
    exact (Option.some.inj h4).symm
/-- the receiver: an object of the class ci -/
theorem g_recv {p : Program} {s : State} {m : MethodId} {args : Array Value} {meth : Method} {c : Code} {H : Heap} (C : g_ctx Γ y cc nL rt p s m args meth c) (hH : g_H Γ h H) {a ci : Nat} {r : vw_C} (hc : vwCl[ci]? = some r) (hi : ci < 11) (ha : hK h a = ci) : ∃ cell : Cell, H[a]? = some cell ∧ cell.vm.isStatics = false ∧ s.vm.findClass r.1 = some cell.cls := by
  obtain ⟨k, hk⟩ := hH.at (a := a) (by omega)
  rw [g_cell_obj ha hi] at hk
  exact va_recv C.2.2.2.2.2.2.2.2.1 hH.2.2.1 hc hk
end GJ
