/-! The typed heap: what the law's own cells hold, by their addresses; a pure value. hz: the heap's size; hK: the kind of a cell (0 .. 10 an object of vwCl's class, 11 char[], 12 int[], 13 boolean[], 14 long[], 15 Moment[], 16 State[]); hN: an array's length; hI, hJ, hR: what slot k holds. -/
abbrev PH : Type := Nat × (Nat → Nat) × (Nat → Nat) × (Nat → Nat → Int32) × (Nat → Nat → Int64) × (Nat → Nat → Option Nat) × (Nat → Nat)
def hz (h : PH) : Nat := h.1
def hK (h : PH) : Nat → Nat := h.2.1
def hN (h : PH) : Nat → Nat := h.2.2.1
def hI (h : PH) : Nat → Nat → Int32 := h.2.2.2.1
def hJ (h : PH) : Nat → Nat → Int64 := h.2.2.2.2.1
def hR (h : PH) : Nat → Nat → Option Nat := h.2.2.2.2.2.1
/-- where the constants lie: 0 .. 26 the words, 27 their row, 28 the orders, 29 the text of single signs -/
def hW (h : PH) : Nat → Nat := h.2.2.2.2.2.2
def up2 {α : Type} (f : Nat → Nat → α) (a k : Nat) (v : α) : Nat → Nat → α := va_up f a (va_up (f a) k v)
def sI (h : PH) (a k : Nat) (v : Int32) : PH := (hz h, hK h, hN h, up2 (hI h) a k v, hJ h, hR h, hW h)
def sJ (h : PH) (a k : Nat) (v : Int64) : PH := (hz h, hK h, hN h, hI h, up2 (hJ h) a k v, hR h, hW h)
def sR (h : PH) (a k : Nat) (v : Option Nat) : PH := (hz h, hK h, hN h, hI h, hJ h, up2 (hR h) a k v, hW h)
def sRow (h : PH) (a : Nat) (f : Nat → Int32) : PH := (hz h, hK h, hN h, va_up (hI h) a f, hJ h, hR h, hW h)
def nwh (h : PH) (kd len : Nat) : PH := (hz h + 1, va_up (hK h) (hz h) kd, va_up (hN h) (hz h) len, va_up (hI h) (hz h) (fun _ => 0), va_up (hJ h) (hz h) (fun _ => 0), va_up (hR h) (hz h) (fun _ => none), hW h)
/-- a class's fields: 0 an int or a boolean, 1 a long, 2 a reference -/
def g_ty (ci : Nat) : List Nat := match ci with
  | 0 => [2, 0]
  | 1 => [0, 2, 2, 0]
  | 2 => [2, 2, 2, 2, 2, 0]
  | 3 => [2, 2, 2, 2, 2, 2, 2, 2, 2, 2, 2, 0, 0, 0, 0]
  | 4 => [0, 2, 2, 2, 2]
  | 5 => [2, 0, 0, 0, 0, 0, 1, 2, 0]
  | 6 => [2, 2, 2, 2, 2, 2, 2, 0, 2, 2, 2, 0, 2, 2, 2]
  | 7 => [2, 2]
  | 8 => [2, 2, 2, 2, 2, 2, 2, 2, 2, 0, 0, 0, 0, 0, 0, 0, 0]
  | 9 => [2, 2, 2, 2, 2, 2, 2, 2, 2, 2, 2, 2, 0, 0, 0]
  | 10 => [0, 0, 2, 0, 0, 0, 0, 1, 0, 0, 2, 2, 2, 2, 2, 2, 2, 2, 2, 2, 2, 2, 2, 0, 0, 2, 2, 2, 2, 2, 2, 2, 2, 2, 2, 2, 2, 0, 1, 2, 2, 2, 2, 2, 2, 2, 2, 2, 2, 2, 2, 2, 2, 2, 0, 0, 0, 2, 2, 2, 2, 0, 0, 2, 2, 1]
  | _ => []
def g_fv (h : PH) (a t k : Nat) : Value := match t with
  | 0 => .int (hI h a k)
  | 1 => .long (hJ h a k)
  | _ => va_rf (hR h a k)
def g_fs (h : PH) (a : Nat) (ts : List Nat) : List Value := (List.range ts.length).map (fun k => g_fv h a (ts.getD k 0) k)
def g_cell (cy : Nat → ClassId) (h : PH) (a : Nat) : va_E :=
  if hK h a < 11 then .inr (hK h a, g_fs h a (g_ty (hK h a)))
  else if hK h a < 14 then .inl (cy (hK h a), hN h a, .inl (hI h a))
  else if hK h a = 14 then .inl (cy 14, hN h a, .inr (.inl (hJ h a)))
  else .inl (cy (hK h a), hN h a, .inr (.inr (.inr (.inr (hR h a)))))
theorem g_fs_get {h : PH} {a : Nat} {ts : List Nat} {k t : Nat} (ht : ts[k]? = some t) : (g_fs h a ts)[k]? = some (g_fv h a t k) := by
  have hl := (List.getElem?_eq_some_iff.mp ht).1
  have he : ts[k] = t := (List.getElem?_eq_some_iff.mp ht).2
  simp [g_fs, hl, he]
theorem g_fs_len {h : PH} {a : Nat} {ts : List Nat} : (g_fs h a ts).length = ts.length := by simp [g_fs]
/-- a slot of its own kind is set: the list of the fields changes at that place -/
theorem g_fs_set {h h1 : PH} {a : Nat} {ts : List Nat} {k t : Nat} {v : Value} (ht : ts[k]? = some t) (hv : g_fv h1 a t k = v) (ho : ∀ j u, ts[j]? = some u → j ≠ k → g_fv h1 a u j = g_fv h a u j) : g_fs h1 a ts = (g_fs h a ts).set k v := by
  apply List.ext_getElem?
  intro j
  by_cases hj : j = k
  · subst hj
    rw [g_fs_get ht, hv, List.getElem?_set_self (by rw [g_fs_len]; exact (List.getElem?_eq_some_iff.mp ht).1)]
  · rw [List.getElem?_set_ne (Ne.symm hj)]
    cases hu : ts[j]? with
    | none =>
      have hl : ts.length ≤ j := by simpa using hu
      rw [List.getElem?_eq_none (by rw [g_fs_len]; exact hl), List.getElem?_eq_none (by rw [g_fs_len]; exact hl)]
    | some u => rw [g_fs_get hu, g_fs_get hu, ho j u hu hj]
section Up2
theorem up2_self {α : Type} (f : Nat → Nat → α) (a k : Nat) (v : α) : up2 f a k v a k = v := by simp [up2, va_up]
theorem up2_k {α : Type} (f : Nat → Nat → α) (a : Nat) {k j : Nat} (v : α) (h : j ≠ k) : up2 f a k v a j = f a j := by simp [up2, va_up, h]
theorem up2_a {α : Type} (f : Nat → Nat → α) {a b : Nat} (k : Nat) (v : α) (h : b ≠ a) : up2 f a k v b = f b := by simp [up2, va_up, h]
theorem up2_row {α : Type} (f : Nat → Nat → α) (a k : Nat) (v : α) : up2 f a k v a = va_up (f a) k v := by simp [up2, va_up]
theorem hI_sI (h : PH) (a k : Nat) (v : Int32) : hI (sI h a k v) = up2 (hI h) a k v := rfl
theorem hK_sI (h : PH) (a k : Nat) (v : Int32) : hK (sI h a k v) = hK h := rfl
theorem hN_sI (h : PH) (a k : Nat) (v : Int32) : hN (sI h a k v) = hN h := rfl
theorem hJ_sI (h : PH) (a k : Nat) (v : Int32) : hJ (sI h a k v) = hJ h := rfl
theorem hR_sI (h : PH) (a k : Nat) (v : Int32) : hR (sI h a k v) = hR h := rfl
theorem hz_sI (h : PH) (a k : Nat) (v : Int32) : hz (sI h a k v) = hz h := rfl
theorem hI_sJ (h : PH) (a k : Nat) (v : Int64) : hI (sJ h a k v) = hI h := rfl
theorem hK_sJ (h : PH) (a k : Nat) (v : Int64) : hK (sJ h a k v) = hK h := rfl
theorem hN_sJ (h : PH) (a k : Nat) (v : Int64) : hN (sJ h a k v) = hN h := rfl
theorem hJ_sJ (h : PH) (a k : Nat) (v : Int64) : hJ (sJ h a k v) = up2 (hJ h) a k v := rfl
theorem hR_sJ (h : PH) (a k : Nat) (v : Int64) : hR (sJ h a k v) = hR h := rfl
theorem hz_sJ (h : PH) (a k : Nat) (v : Int64) : hz (sJ h a k v) = hz h := rfl
theorem hI_sR (h : PH) (a k : Nat) (v : Option Nat) : hI (sR h a k v) = hI h := rfl
theorem hK_sR (h : PH) (a k : Nat) (v : Option Nat) : hK (sR h a k v) = hK h := rfl
theorem hN_sR (h : PH) (a k : Nat) (v : Option Nat) : hN (sR h a k v) = hN h := rfl
theorem hJ_sR (h : PH) (a k : Nat) (v : Option Nat) : hJ (sR h a k v) = hJ h := rfl
theorem hR_sR (h : PH) (a k : Nat) (v : Option Nat) : hR (sR h a k v) = up2 (hR h) a k v := rfl
theorem hz_sR (h : PH) (a k : Nat) (v : Option Nat) : hz (sR h a k v) = hz h := rfl
theorem hI_sRow (h : PH) (a : Nat) (f : Nat → Int32) : hI (sRow h a f) = va_up (hI h) a f := rfl
theorem hK_sRow (h : PH) (a : Nat) (f : Nat → Int32) : hK (sRow h a f) = hK h := rfl
theorem hN_sRow (h : PH) (a : Nat) (f : Nat → Int32) : hN (sRow h a f) = hN h := rfl
theorem hJ_sRow (h : PH) (a : Nat) (f : Nat → Int32) : hJ (sRow h a f) = hJ h := rfl
theorem hR_sRow (h : PH) (a : Nat) (f : Nat → Int32) : hR (sRow h a f) = hR h := rfl
theorem hz_sRow (h : PH) (a : Nat) (f : Nat → Int32) : hz (sRow h a f) = hz h := rfl
end Up2
/-- a cell's picture depends on its own rows alone -/
theorem g_cell_congr {cy : Nat → ClassId} {h h1 : PH} {a : Nat} (e1 : hK h1 a = hK h a) (e2 : hN h1 a = hN h a) (e3 : hI h1 a = hI h a) (e4 : hJ h1 a = hJ h a) (e5 : hR h1 a = hR h a) : g_cell cy h1 a = g_cell cy h a := by
  have hf : ∀ t k, g_fv h1 a t k = g_fv h a t k := by
    intro t k
    unfold g_fv
    rw [e3, e4, e5]
  have hs : ∀ ts, g_fs h1 a ts = g_fs h a ts := by
    intro ts
    unfold g_fs
    congr 1
    funext k
    exact hf _ _
  unfold g_cell
  rw [e1, e2, e3, e4, e5, hs]
theorem g_cell_obj {cy : Nat → ClassId} {h : PH} {a ci : Nat} (ha : hK h a = ci) (hc : ci < 11) : g_cell cy h a = .inr (ci, g_fs h a (g_ty ci)) := by
  subst ha
  unfold g_cell
  rw [if_pos hc]
theorem g_cell_int {cy : Nat → ClassId} {h : PH} {a kd : Nat} (ha : hK h a = kd) (h1 : 11 ≤ kd) (h2 : kd < 14) : g_cell cy h a = .inl (cy kd, hN h a, .inl (hI h a)) := by
  subst ha
  unfold g_cell
  rw [if_neg (by omega), if_pos h2]
theorem g_cell_long {cy : Nat → ClassId} {h : PH} {a : Nat} (ha : hK h a = 14) : g_cell cy h a = .inl (cy 14, hN h a, .inr (.inl (hJ h a))) := by
  unfold g_cell
  rw [if_neg (by omega), if_neg (by omega), if_pos ha]
theorem g_cell_ref {cy : Nat → ClassId} {h : PH} {a kd : Nat} (ha : hK h a = kd) (h1 : 15 ≤ kd) : g_cell cy h a = .inl (cy kd, hN h a, .inr (.inr (.inr (.inr (hR h a))))) := by
  subst ha
  unfold g_cell
  rw [if_neg (by omega), if_neg (by omega), if_neg (by omega)]
/-- which array class each kind of array is of -/
def g_tys (cy : Nat → ClassId) : List (ClassId × FieldType) := [(cy 11, .char), (cy 12, .int), (cy 13, .boolean), (cy 14, .long), (cy 15, .object RX2), (cy 16, .object RX4)]
abbrev GX : Type := Launch × State × va_G × (Nat → ClassId) × (Nat → Nat)
def g_A (Γ : GX) : Nat → Prop := fun q => Γ.2.1.heap.size ≤ q
def g_L (Γ : GX) (h : PH) : List Nat := (List.range' Γ.2.1.heap.size (hz h - Γ.2.1.heap.size)).filter (fun a => decide (hK h a < 17))
def g_ws (Γ : GX) (h : PH) : va_W := va_pl (g_L Γ h) (g_cell Γ.2.2.2.1 h)
theorem g_L_mem {Γ : GX} {h : PH} {a : Nat} : a ∈ g_L Γ h ↔ Γ.2.1.heap.size ≤ a ∧ a < hz h ∧ hK h a < 17 := by
  simp only [g_L, List.mem_filter, List.mem_range'_1, decide_eq_true_eq]
  omega
theorem g_L_nd (Γ : GX) (h : PH) : (g_L Γ h).Nodup := List.Pairwise.filter _ (List.nodup_range' 1)
theorem g_ws_D (Γ : GX) (h : PH) : va_D (g_A Γ) (g_ws Γ h) := by
  have key : ∀ (i : Nat) (q : Nat × va_E), (g_ws Γ h)[i]? = some q → (g_L Γ h)[i]? = some q.1 := by
    intro i q hq
    simp only [g_ws, va_pl, List.getElem?_map] at hq
    cases hx : (g_L Γ h)[i]? with
    | none => rw [hx] at hq; cases hq
    | some b => rw [hx] at hq; cases hq; rfl
  refine ⟨fun i j p q hi hj he => ?_, fun k q hk => ?_⟩
  · have h1 := key i p hi
    have h2 := key j q hj
    exact (List.getElem?_inj (List.getElem?_eq_some_iff.mp h1).1 (g_L_nd Γ h)).mp (by rw [h1, h2, he])
  · exact (g_L_mem.mp (List.mem_of_getElem? (key k q hk))).1
/-- the heap's rows as they stand: size, where the cells lie, what they hold -/
def g_H (Γ : GX) (h : PH) (H : Heap) : Prop := H.size = hz h ∧ (∀ a, hK h a < 17 → Γ.2.1.heap.size ≤ a ∧ a < hz h) ∧ va_P Γ.2.2.1 vwCl (g_ws Γ h) H ∧ hW h = Γ.2.2.2.2
theorem g_H.at {Γ : GX} {h : PH} {H : Heap} (hH : g_H Γ h H) {a : Nat} (ha : hK h a < 17) : ∃ k : Nat, (g_ws Γ h)[k]? = some (a, g_cell Γ.2.2.2.1 h a) :=
  va_pl_get (X := []) (f := g_cell Γ.2.2.2.1 h) (g_L_mem.mpr ⟨(hH.2.1 a ha).1, (hH.2.1 a ha).2, ha⟩)
/-- one cell is written: all other cells stay -/
theorem g_H.put {Γ : GX} {h h1 : PH} {H H1 : Heap} (hH : g_H Γ h H) {a : Nat} (ha : hK h a < 17) (eK : hK h1 = hK h) (ez : hz h1 = hz h) (eo : ∀ b, b ≠ a → g_cell Γ.2.2.2.1 h1 b = g_cell Γ.2.2.2.1 h b) (he : va_at Γ.2.2.1 vwCl (a, g_cell Γ.2.2.2.1 h1 a) H1) (z : H1.size = H.size) (oq : ∀ q : Nat, q ≠ a → H1[q]? = H[q]?) (eW : hW h1 = hW h := by rfl) : g_H Γ h1 H1 := by
  refine ⟨by rw [z, hH.1, ez], by rw [eK, ez]; exact hH.2.1, ?_, eW.trans hH.2.2.2⟩
  obtain ⟨k, hk⟩ := hH.at ha
  have h2 := hH.2.2.1.set (g_ws_D Γ h) hk he oq
  have e1 : (g_ws Γ h).set k (a, g_cell Γ.2.2.2.1 h1 a) = g_ws Γ h1 := by
    have := va_pl_set (A := g_A Γ) (X := []) (L := g_L Γ h) (f := g_cell Γ.2.2.2.1 h) (a := a) (k := k) (e := g_cell Γ.2.2.2.1 h1 a) (g_ws_D Γ h) (g_L_mem.mpr ⟨(hH.2.1 a ha).1, (hH.2.1 a ha).2, ha⟩) hk
    refine this.trans ?_
    show va_pl (g_L Γ h) _ = va_pl (g_L Γ h1) _
    have eL : g_L Γ h1 = g_L Γ h := by unfold g_L; rw [eK, ez]
    rw [eL]
    refine va_pl_congr fun b => ?_
    by_cases hb : b = a
    · subst hb; rw [va_up_self]
    · rw [va_up_ne _ _ hb, eo b hb]
  rw [e1] at h2
  exact h2
/-- a cell is made -/
theorem g_H.new {Γ : GX} {h : PH} {H H1 : Heap} {kd len : Nat} (hH : g_H Γ h H) (hlo : Γ.2.1.heap.size ≤ hz h) (hk : kd < 17) (he : va_at Γ.2.2.1 vwCl (hz h, g_cell Γ.2.2.2.1 (nwh h kd len) (hz h)) H1) (z : H1.size = H.size + 1) (oq : ∀ q : Nat, q < H.size → H1[q]? = H[q]?) : g_H Γ (nwh h kd len) H1 := by
  refine ⟨by rw [z, hH.1]; rfl, fun a ha => ?_, fun k q hq => ?_, hH.2.2.2⟩
  · by_cases hb : a = hz h
    · subst hb; exact ⟨hlo, Nat.lt_succ_self _⟩
    · have h1 : hK h a < 17 := by
        have : hK (nwh h kd len) a = hK h a := va_up_ne _ _ hb
        rw [← this]; exact ha
      exact ⟨(hH.2.1 a h1).1, Nat.lt_succ_of_lt (hH.2.1 a h1).2⟩
  · have hm : q ∈ g_ws Γ (nwh h kd len) := List.mem_of_getElem? hq
    obtain ⟨a, ha, rfl⟩ := List.mem_map.mp hm
    by_cases hb : a = hz h
    · subst hb; exact he
    · have h2 := (g_L_mem.mp ha).2.2
      have e1 : hK (nwh h kd len) a = hK h a := va_up_ne _ _ hb
      rw [e1] at h2
      obtain ⟨k', hk'⟩ := hH.at h2
      have h3 := hH.2.2.1 k' _ hk'
      have e2 : g_cell Γ.2.2.2.1 (nwh h kd len) a = g_cell Γ.2.2.2.1 h a := g_cell_congr e1 (va_up_ne _ _ hb) (va_up_ne _ _ hb) (va_up_ne _ _ hb) (va_up_ne _ _ hb)
      show va_at _ _ (a, g_cell Γ.2.2.2.1 (nwh h kd len) a) H1
      rw [e2]
      exact h3.kept (oq a h3.lt)
