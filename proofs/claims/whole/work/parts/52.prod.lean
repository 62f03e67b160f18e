/-! Ways below several flues: counts multiply. -/
theorem takeL_cn {key : (Nat → Nat) → Nat} {d : Nat} {t : (Nat → Nat) → Bool} : ∀ a l, cn key d (takeL t a l) = cn key d l + a.countP (fun u => t u && decide (key u = d))
  | [], _ => rfl
  | u :: a, l => by
    show cn key d (takeL t a (if t u = true then u :: l else l)) = _
    rw [takeL_cn a, List.countP_cons]
    by_cases c : t u = true
    · rw [if_pos c]
      show cn key d l + (if key u = d then 1 else 0) + _ = _
      by_cases e : key u = d
      · rw [if_pos e, if_pos (by simp [c, e])]; omega
      · rw [if_neg e, if_neg (by simp [e])]; omega
    · rw [if_neg c, if_neg (by simp [c])]
      omega
theorem takeL_ct {t : (Nat → Nat) → Bool} : ∀ a l, (takeL t a l).length = l.length + a.countP t
  | [], _ => rfl
  | u :: a, l => by
    show (takeL t a (if t u = true then u :: l else l)).length = _
    rw [takeL_ct a, List.countP_cons]
    by_cases c : t u = true
    · rw [if_pos c, if_pos c, List.length_cons]; omega
    · rw [if_neg c, if_neg c]; omega
theorem takeL_mem {t : (Nat → Nat) → Bool} {z : Nat → Nat} : ∀ a l, z ∈ takeL t a l ↔ (z ∈ l ∨ (z ∈ a ∧ t z = true))
  | [], l => by simp [takeL]
  | u :: a, l => by
    show z ∈ takeL t a (if t u = true then u :: l else l) ↔ _
    rw [takeL_mem a]
    by_cases c : t u = true
    · rw [if_pos c, List.mem_cons, List.mem_cons]
      constructor
      · rintro ((rfl | h) | h)
        · exact Or.inr ⟨Or.inl rfl, c⟩
        · exact Or.inl h
        · exact Or.inr ⟨Or.inr h.1, h.2⟩
      · rintro (h | ⟨rfl | h, h2⟩)
        · exact Or.inl (Or.inr h)
        · exact Or.inl (Or.inl rfl)
        · exact Or.inr ⟨h, h2⟩
    · rw [if_neg c, List.mem_cons]
      constructor
      · rintro (h | h)
        · exact Or.inl h
        · exact Or.inr ⟨Or.inr h.1, h.2⟩
      · rintro (h | ⟨rfl | h, h2⟩)
        · exact Or.inl h
        · exact absurd h2 c
        · exact Or.inr ⟨h, h2⟩
/-- P doesn't look at house j -/
def Ind (P : (Nat → Nat) → Bool) (j : Nat) : Prop := ∀ u c, P (va_up u j c) = P u
theorem va_sw {u : Nat → Nat} {j k a b : Nat} (h : j ≠ k) : va_up (va_up u j a) k b = va_up (va_up u k b) j a := by
  funext i
  unfold va_up
  by_cases c : i = k
  · by_cases d : i = j
    · omega
    · rw [if_pos c, if_neg d, if_pos c]
  · by_cases d : i = j
    · rw [if_neg c, if_pos d, if_pos d]
    · rw [if_neg c, if_neg d, if_neg d, if_neg c]
theorem cnt_fm {α : Type} {P : (Nat → Nat) → Bool} {g : α → List (Nat → Nat)} {c : Nat} {G : α → Nat} (h : ∀ a, (g a).countP P = G a * c) : ∀ l : List α, (l.flatMap g).countP P = (l.map G).sum * c
  | [] => by simp
  | a :: l => by
    rw [List.flatMap_cons, List.countP_append, h a, cnt_fm h l, List.map_cons, List.sum_cons, Nat.add_mul]
theorem cnt_fm1 {α : Type} {P : (Nat → Nat) → Bool} {g : α → List (Nat → Nat)} : ∀ l : List α, (l.flatMap g).countP P = (l.map (fun a => (g a).countP P)).sum
  | [] => by simp
  | a :: l => by rw [List.flatMap_cons, List.countP_append, cnt_fm1 l, List.map_cons, List.sum_cons]
section PR
variable {p : Nat → Nat → Bool}
theorem ws_ind {X j : Nat} {P : (Nat → Nat) → Bool} (hP : Ind P j) : ∀ n k u c, j < k → (ws X p n k (va_up u j c)).countP P = (ws X p n k u).countP P
  | 0, k, u, c, _ => by
    show [va_up u j c].countP P = [u].countP P
    rw [List.countP_cons, List.countP_cons, hP u c]
  | n + 1, k, u, c, hj => by
    unfold ws
    by_cases t : X.testBit k = true
    · rw [if_pos t, if_pos t, cnt_fm1, cnt_fm1]
      congr 2
      funext f
      rw [va_sw (by omega)]
      exact ws_ind hP n (k + 1) (va_up u k f) c (by omega)
    · rw [if_neg t, if_neg t]
      exact ws_ind hP n (k + 1) u c (by omega)
theorem ws_mul {X X1 X2 : Nat} (hX : ∀ j, X.testBit j = true ↔ (X1.testBit j = true ∨ X2.testBit j = true)) (hd : ∀ j, ¬ (X1.testBit j = true ∧ X2.testBit j = true)) {P1 P2 : (Nat → Nat) → Bool} (h1 : ∀ j, X2.testBit j = true → Ind P1 j) (h2 : ∀ j, X1.testBit j = true → Ind P2 j) : ∀ n k u, (ws X p n k u).countP (fun u => P1 u && P2 u) = (ws X1 p n k u).countP P1 * (ws X2 p n k u).countP P2
  | 0, k, u => by
    show [u].countP _ = [u].countP P1 * [u].countP P2
    rw [List.countP_cons, List.countP_cons, List.countP_cons, List.countP_nil, List.countP_nil, List.countP_nil]
    cases P1 u <;> cases P2 u <;> rfl
  | n + 1, k, u => by
    show (if X.testBit k = true then (cl6 (p k) 6 0).flatMap (fun f => ws X p n (k + 1) (va_up u k f)) else ws X p n (k + 1) u).countP _ = (if X1.testBit k = true then (cl6 (p k) 6 0).flatMap (fun f => ws X1 p n (k + 1) (va_up u k f)) else ws X1 p n (k + 1) u).countP P1 * (if X2.testBit k = true then (cl6 (p k) 6 0).flatMap (fun f => ws X2 p n (k + 1) (va_up u k f)) else ws X2 p n (k + 1) u).countP P2
    by_cases t1 : X1.testBit k = true
    · have t2 : ¬ X2.testBit k = true := fun z => hd k ⟨t1, z⟩
      rw [if_pos ((hX k).mpr (Or.inl t1)), if_pos t1, if_neg t2, cnt_fm (G := fun f => (ws X1 p n (k + 1) (va_up u k f)).countP P1) (c := (ws X2 p n (k + 1) u).countP P2) (fun f => by rw [ws_mul hX hd h1 h2 n (k + 1) (va_up u k f), ws_ind (h2 k t1) n (k + 1) u f (by omega)]), cnt_fm1]
    · by_cases t2 : X2.testBit k = true
      · rw [if_pos ((hX k).mpr (Or.inr t2)), if_neg t1, if_pos t2, cnt_fm (G := fun f => (ws X2 p n (k + 1) (va_up u k f)).countP P2) (c := (ws X1 p n (k + 1) u).countP P1) (fun f => by rw [ws_mul hX hd h1 h2 n (k + 1) (va_up u k f), ws_ind (h1 k t2) n (k + 1) u f (by omega), Nat.mul_comm]), cnt_fm1, Nat.mul_comm]
      · rw [if_neg (fun z => ((hX k).mp z).elim t1 t2), if_neg t1, if_neg t2]
        exact ws_mul hX hd h1 h2 n (k + 1) u
end PR
/-- all houses without a fire -/
def noA (A : AV) (S : AS) : Nat := bts (fun i => decide (tL S i = 0)) (aC A 2)
theorem noA_b {A : AV} {S : AS} {i : Nat} : (noA A S).testBit i = true ↔ (i < aC A 2 ∧ tL S i = 0) := by
  unfold noA
  rw [bts_tb]
  simp
def u5 : Nat → Nat := fun _ => 5
/-- the ways below one flue, all told -/
def FL (A : AV) (S : AS) (R : AR) (f : Nat) : List (Nat → Nat) := takeL (tkB A S R f true) (ws (noF A S f) (al A S) 4 0 u5) []
/-- whether all that is read is so -/
def okA (A : AV) (S : AS) (R : AR) (u : Nat → Nat) : Bool := allB (fun i => rkB A (sb A S u (R.2.2.1 i) 0) (sb A S u (R.2.2.1 i) 1) (sbs A S u (R.2.2.1 i)) (R.2.1 i) (R.2.2.2 i)) R.1
/-- the ways of all houses -/
def GL (A : AV) (S : AS) (R : AR) : List (Nat → Nat) := takeL (okA A S R) (ws (noA A S) (al A S) 4 0 u5) []
section PD
variable {A : AV} {S : AS} {R : AR}
theorem sb_ind {f j b c : Nat} {u : Nat → Nat} (h : aF A j ≠ f) : sb A S (va_up u j c) f b = sb A S u f b := by
  unfold sb
  congr 1
  refine fb_cong (fun i _ => ?_)
  by_cases e : aF A i = f
  · rw [if_pos e, if_pos e]
    have ne : i ≠ j := fun z => h (z ▸ e)
    unfold gb
    rw [va_ne ne]
  · rw [if_neg e, if_neg e]
theorem tk_t {f : Nat} {u : Nat → Nat} : tkB A S R f true u = okd A R f (sb A S u f 0) (sb A S u f 1) (sbs A S u f) := rfl
theorem tk_ind {f j : Nat} (h : aF A j ≠ f) : Ind (tkB A S R f true) j := fun u c => by
  rw [tk_t, tk_t]
  unfold sbs
  rw [sb_ind h, sb_ind h]
theorem okA_3 (wR : WR A R) (hW : WV A) {f a b : Nat} (hf : f < 3) (ha : a < 3) (hb : b < 3) (h1 : f ≠ a) (h2 : f ≠ b) (h3 : a ≠ b) (u : Nat → Nat) : okA A S R u = (tkB A S R f true u && (tkB A S R a true u && tkB A S R b true u)) := by
  have h3' := hW.1.2.1
  rw [tk_t, tk_t, tk_t]
  have key : okA A S R u = true ↔ (okd A R f (sb A S u f 0) (sb A S u f 1) (sbs A S u f) && (okd A R a (sb A S u a 0) (sb A S u a 1) (sbs A S u a) && okd A R b (sb A S u b 0) (sb A S u b 1) (sbs A S u b))) = true := by
    rw [Bool.and_eq_true, Bool.and_eq_true]
    unfold okA okd
    rw [allB_iff, allB_iff, allB_iff, allB_iff]
    constructor
    · intro z
      refine ⟨fun i hi => ?_, fun i hi => ?_, fun i hi => ?_⟩
      · by_cases e : R.2.2.1 i = f
        · have := z i hi
          rw [e] at this
          simp [e, this]
        · simp [e]
      · by_cases e : R.2.2.1 i = a
        · have := z i hi
          rw [e] at this
          simp [e, this]
        · simp [e]
      · by_cases e : R.2.2.1 i = b
        · have := z i hi
          rw [e] at this
          simp [e, this]
        · simp [e]
    · rintro ⟨z1, z2, z3⟩ i hi
      have w := (wR.2 i hi).2.1
      have q1 := z1 i hi
      have q2 := z2 i hi
      have q3 := z3 i hi
      rcases (show R.2.2.1 i = f ∨ R.2.2.1 i = a ∨ R.2.2.1 i = b by omega) with e | e | e
      · rw [e]
        simpa [e] using q1
      · rw [e]
        simpa [e] using q2
      · rw [e]
        simpa [e] using q3
  cases hx : okA A S R u
  · cases hy : (okd A R f (sb A S u f 0) (sb A S u f 1) (sbs A S u f) && (okd A R a (sb A S u a 0) (sb A S u a 1) (sbs A S u a) && okd A R b (sb A S u b 0) (sb A S u b 1) (sbs A S u b)))
    · rfl
    · have := key.mpr hy
      rw [hx] at this
      exact absurd this (by decide)
  · exact (key.mp hx).symm
/-- a property of one flue's houses, and the things read, over all ways -/
theorem prod3 (wR : WR A R) (hW : WV A) {f a b : Nat} (hf : f < 3) (ha : a < 3) (hb : b < 3) (h1 : f ≠ a) (h2 : f ≠ b) (h3 : a ≠ b) {Q : (Nat → Nat) → Bool} (hQ : ∀ j, aF A j ≠ f → Ind Q j) : (ws (noA A S) (al A S) 4 0 u5).countP (fun u => okA A S R u && Q u) = (ws (noF A S f) (al A S) 4 0 u5).countP (fun u => tkB A S R f true u && Q u) * ((FL A S R a).length * (FL A S R b).length) := by
  have h3' := hW.1.2.1
  have eab : ∀ j, (noF A S a ||| noF A S b).testBit j = true ↔ ((noF A S a).testBit j = true ∨ (noF A S b).testBit j = true) := fun j => by rw [Nat.testBit_or, Bool.or_eq_true]
  have e1 : (fun u => okA A S R u && Q u) = (fun u => (tkB A S R f true u && Q u) && (tkB A S R a true u && tkB A S R b true u)) := by
    funext u
    rw [okA_3 wR hW hf ha hb h1 h2 h3 u]
    cases tkB A S R f true u <;> cases tkB A S R a true u <;> cases tkB A S R b true u <;> cases Q u <;> rfl
  rw [e1, ws_mul (X1 := noF A S f) (X2 := noF A S a ||| noF A S b) (P1 := fun u => tkB A S R f true u && Q u) (P2 := fun u => tkB A S R a true u && tkB A S R b true u) (fun j => ?_) (fun j z => ?_) (fun j z => ?_) (fun j z => ?_) 4 0 u5, ws_mul (X1 := noF A S a) (X2 := noF A S b) (P1 := tkB A S R a true) (P2 := tkB A S R b true) eab (fun j z => ?_) (fun j z => ?_) (fun j z => ?_) 4 0 u5]
  · unfold FL
    rw [takeL_ct, takeL_ct, List.length_nil, Nat.zero_add, Nat.zero_add]
  · have q1 := (noF_b.mp z.1).2.1
    have q2 := (noF_b.mp z.2).2.1
    omega
  · exact tk_ind (by have := (noF_b.mp z).2.1; omega)
  · exact tk_ind (by have := (noF_b.mp z).2.1; omega)
  · rw [eab, noA_b, noF_b, noF_b, noF_b]
    constructor
    · intro z
      have fl := hW.2.2.1 j z.1
      rcases (show aF A j = f ∨ aF A j = a ∨ aF A j = b by omega) with e | e | e
      · exact Or.inl ⟨z.1, e, z.2⟩
      · exact Or.inr (Or.inl ⟨z.1, e, z.2⟩)
      · exact Or.inr (Or.inr ⟨z.1, e, z.2⟩)
    · rintro (z | z | z)
      · exact ⟨z.1, z.2.2⟩
      · exact ⟨z.1, z.2.2⟩
      · exact ⟨z.1, z.2.2⟩
  · have q1 := (noF_b.mp z.1).2.1
    rcases (eab j).mp z.2 with q | q
    · have := (noF_b.mp q).2.1; omega
    · have := (noF_b.mp q).2.1; omega
  · have nf : aF A j ≠ f := by
      rcases (eab j).mp z with q | q
      · have := (noF_b.mp q).2.1; omega
      · have := (noF_b.mp q).2.1; omega
    exact fun u c => by
      show (tkB A S R f true (va_up u j c) && Q (va_up u j c)) = (tkB A S R f true u && Q u)
      rw [tk_ind nf u c, hQ j nf u c]
  · have e := (noF_b.mp z).2.1
    exact fun u c => by
      show (tkB A S R a true (va_up u j c) && tkB A S R b true (va_up u j c)) = (tkB A S R a true u && tkB A S R b true u)
      rw [tk_ind (show aF A j ≠ a by omega) u c, tk_ind (show aF A j ≠ b by omega) u c]
theorem GL_len (wR : WR A R) (hW : WV A) {f a b : Nat} (hf : f < 3) (ha : a < 3) (hb : b < 3) (h1 : f ≠ a) (h2 : f ≠ b) (h3 : a ≠ b) : (GL A S R).length = (FL A S R f).length * ((FL A S R a).length * (FL A S R b).length) := by
  have := prod3 (S := S) wR hW hf ha hb h1 h2 h3 (Q := fun _ => true) (fun _ _ _ _ => rfl)
  unfold GL
  rw [takeL_ct, List.length_nil, Nat.zero_add]
  have e1 : (fun u => okA A S R u && true) = okA A S R := by funext u; rw [Bool.and_true]
  have e2 : (fun u => tkB A S R f true u && true) = tkB A S R f true := by funext u; rw [Bool.and_true]
  rw [e1, e2] at this
  rw [this]
  congr 1
  show _ = (takeL (tkB A S R f true) (ws (noF A S f) (al A S) 4 0 u5) []).length
  rw [takeL_ct, List.length_nil, Nat.zero_add]
theorem GL_cn (wR : WR A R) (hW : WV A) {f a b : Nat} (hf : f < 3) (ha : a < 3) (hb : b < 3) (h1 : f ≠ a) (h2 : f ≠ b) (h3 : a ≠ b) {key : (Nat → Nat) → Nat} (hk : ∀ j, aF A j ≠ f → ∀ u c, key (va_up u j c) = key u) (d : Nat) : cn key d (GL A S R) = cn key d (FL A S R f) * ((FL A S R a).length * (FL A S R b).length) := by
  have := prod3 (S := S) wR hW hf ha hb h1 h2 h3 (Q := fun u => decide (key u = d)) (fun j hj u c => by
    show decide (key (va_up u j c) = d) = decide (key u = d)
    rw [hk j hj u c])
  unfold GL
  rw [takeL_cn]
  show 0 + _ = _
  rw [Nat.zero_add, this]
  congr 1
  show _ = cn key d (takeL (tkB A S R f true) (ws (noF A S f) (al A S) 4 0 u5) [])
  rw [takeL_cn]
  show _ = 0 + _
  rw [Nat.zero_add]
theorem cn_mx {key : (Nat → Nat) → Nat} : ∀ l, (∀ d, cn key d l ≤ mx key l) ∧ (l ≠ [] → ∃ u, u ∈ l ∧ cn key (key u) l = mx key l)
  | [] => ⟨fun _ => Nat.le_refl _, fun h => absurd rfl h⟩
  | u :: l => by
    obtain ⟨a, b⟩ := cn_mx (key := key) l
    have e : mx key (u :: l) = max (mx key l) (cn key (key u) (u :: l)) := rfl
    have e2 : cn key (key u) (u :: l) = cn key (key u) l + 1 := by
      show cn key (key u) l + (if key u = key u then 1 else 0) = _
      rw [if_pos rfl]
    refine ⟨fun d => ?_, fun _ => ?_⟩
    · by_cases c : key u = d
      · rw [← c, e]; omega
      · have : cn key d (u :: l) = cn key d l := by
          show cn key d l + (if key u = d then 1 else 0) = _
          rw [if_neg c]
          rfl
        have := a d
        omega
    · by_cases c : mx key l ≤ cn key (key u) (u :: l)
      · exact ⟨u, List.mem_cons_self, by omega⟩
      · by_cases n : l = []
        · subst n
          exact absurd (Nat.zero_le _) c
        · obtain ⟨v, hv, ev⟩ := b n
          refine ⟨v, List.mem_cons_of_mem _ hv, ?_⟩
          have q : cn key (key v) (u :: l) = cn key (key v) l + (if key u = key v then 1 else 0) := rfl
          by_cases c2 : key u = key v
          · rw [c2] at c
            have := a (key v)
            have q2 : cn key (key v) (u :: l) = cn key (key v) l + 1 := by rw [q, if_pos c2]
            omega
          · rw [if_neg c2] at q
            omega
theorem cn_pos {key : (Nat → Nat) → Nat} {u : Nat → Nat} : ∀ {l}, u ∈ l → 0 < cn key (key u) l
  | v :: l, h => by
    show 0 < cn key (key u) l + (if key v = key u then 1 else 0)
    rcases List.mem_cons.mp h with e | e
    · rw [e, if_pos rfl]; omega
    · have := cn_pos (key := key) e
      omega
theorem mx_mul {key : (Nat → Nat) → Nat} {l l' : List (Nat → Nat)} {c : Nat} (h : ∀ d, cn key d l = cn key d l' * c) : mx key l = mx key l' * c := by
  obtain ⟨a, b⟩ := cn_mx (key := key) l
  obtain ⟨a', b'⟩ := cn_mx (key := key) l'
  apply Nat.le_antisymm
  · by_cases n : l = []
    · subst n; exact Nat.zero_le _
    · obtain ⟨u, hu, eu⟩ := b n
      rw [← eu, h]
      exact Nat.mul_le_mul_right c (a' _)
  · by_cases n : l' = []
    · subst n
      show 0 * c ≤ _
      rw [Nat.zero_mul]
      exact Nat.zero_le _
    · obtain ⟨u, hu, eu⟩ := b' n
      rw [← eu, ← h]
      exact a _
theorem mx_key {k1 k2 : (Nat → Nat) → Nat} (h : ∀ u v, k1 u = k1 v ↔ k2 u = k2 v) : ∀ l, mx k1 l = mx k2 l ∧ ∀ u, cn k1 (k1 u) l = cn k2 (k2 u) l
  | [] => ⟨rfl, fun _ => rfl⟩
  | v :: l => by
    obtain ⟨a, b⟩ := mx_key h l
    have c : ∀ u, cn k1 (k1 u) (v :: l) = cn k2 (k2 u) (v :: l) := fun u => by
      show cn k1 (k1 u) l + (if k1 v = k1 u then 1 else 0) = cn k2 (k2 u) l + (if k2 v = k2 u then 1 else 0)
      rw [b u, ite_i (h v u)]
    refine ⟨?_, c⟩
    show max (mx k1 l) (cn k1 (k1 v) (v :: l)) = max (mx k2 l) (cn k2 (k2 v) (v :: l))
    rw [a, c v]
/-- what a house always did depends on what it did at all -/
theorem sN_c {j c : Nat} : ∀ {l}, l ≠ [] → (∀ u, u ∈ l → u j = c) → sN j l = c
  | [u], _, h => h u List.mem_cons_self
  | u :: v :: l, _, h => by
    show (if sN j (v :: l) = u j then u j else 6) = c
    rw [sN_c (by simp) (fun z hz => h z (List.mem_cons_of_mem _ hz)), h u List.mem_cons_self, if_pos rfl]
theorem sN_6 {j : Nat} : ∀ {l}, (∀ u, u ∈ l → u j ≠ 6) → (∃ u v, u ∈ l ∧ v ∈ l ∧ u j ≠ v j) → sN j l = 6
  | [], _, ⟨u, _, hu, _⟩ => absurd hu (by simp)
  | [u], _, ⟨a, b, ha, hb, ne⟩ => by
    rw [List.mem_singleton.mp ha, List.mem_singleton.mp hb] at ne
    exact absurd rfl ne
  | u :: v :: l, h6, ⟨a, b, ha, hb, ne⟩ => by
    show (if sN j (v :: l) = u j then u j else 6) = 6
    by_cases c : sN j (v :: l) = u j
    · rw [if_pos c]
      have h6u := h6 u List.mem_cons_self
      have h6' : ∀ z, z ∈ v :: l → z j ≠ 6 := fun z hz => h6 z (List.mem_cons_of_mem _ hz)
      -- two of the tail differ, or one of the tail differs from u
      by_cases d : ∃ x y, x ∈ v :: l ∧ y ∈ v :: l ∧ x j ≠ y j
      · rw [sN_6 h6' d] at c
        exact absurd c.symm h6u
      · have eqs : ∀ z, z ∈ v :: l → z j = v j := fun z hz => Classical.byContradiction (fun q => d ⟨z, v, hz, List.mem_cons_self, q⟩)
        rw [sN_c (by simp) eqs] at c
        have all : ∀ z, z ∈ u :: v :: l → z j = u j := fun z hz => by
          rcases List.mem_cons.mp hz with e | e
          · rw [e]
          · rw [eqs z e, c]
        exact absurd ((all a ha).trans (all b hb).symm) ne
    · rw [if_neg c]
theorem sN_eq {j : Nat} {l l' : List (Nat → Nat)} (n : l ≠ []) (n' : l' ≠ []) (h6 : ∀ u, u ∈ l → u j ≠ 6) (h6' : ∀ u, u ∈ l' → u j ≠ 6) (h : ∀ c, (∃ u, u ∈ l ∧ u j = c) ↔ (∃ u, u ∈ l' ∧ u j = c)) : sN j l = sN j l' := by
  by_cases d : ∃ x y, x ∈ l ∧ y ∈ l ∧ x j ≠ y j
  · obtain ⟨x, y, hx, hy, ne⟩ := id d
    obtain ⟨x', hx', ex⟩ := (h (x j)).mp ⟨x, hx, rfl⟩
    obtain ⟨y', hy', ey⟩ := (h (y j)).mp ⟨y, hy, rfl⟩
    rw [sN_6 h6 d, sN_6 h6' ⟨x', y', hx', hy', by rw [ex, ey]; exact ne⟩]
  · obtain ⟨z, hz⟩ : ∃ z, z ∈ l := List.exists_mem_of_ne_nil l n
    have eqs : ∀ u, u ∈ l → u j = z j := fun u hu => Classical.byContradiction (fun q => d ⟨u, z, hu, hz, q⟩)
    rw [sN_c n eqs, sN_c n' (fun u hu => by
      obtain ⟨w, hw, ew⟩ := (h (u j)).mpr ⟨u, hu, rfl⟩
      rw [← ew]
      exact eqs w hw)]
theorem GL_ok (hW : WV A) : okL A (GL A S R) := takeL_ok _ _ (ws_ok hW 4 0 _ rfl (fun j _ => Or.inl rfl)) (fun z hz => absurd hz (by simp))
theorem FL_ok (hW : WV A) (f : Nat) : okL A (FL A S R f) := takeL_ok _ _ (ws_ok hW 4 0 _ rfl (fun j _ => Or.inl rfl)) (fun z hz => absurd hz (by simp))
theorem GL_le : (GL A S R).length ≤ 1296 := by
  have a := takeL_len (t := okA A S R) (ws (noA A S) (al A S) 4 0 u5) []
  have b := ws_len (X := noA A S) (p := al A S) 4 0 u5
  have e6 : 6 ^ 4 = 1296 := rfl
  rw [List.length_nil] at a
  unfold GL
  omega
theorem FL_le (f : Nat) : (FL A S R f).length ≤ 1296 := by
  have a := takeL_len (t := tkB A S R f true) (ws (noF A S f) (al A S) 4 0 u5) []
  have b := ws_len (X := noF A S f) (p := al A S) 4 0 u5
  have e6 : 6 ^ 4 = 1296 := rfl
  rw [List.length_nil] at a
  unfold FL
  omega
theorem cn_mem {j c : Nat} : ∀ {l : List (Nat → Nat)}, 0 < cn (fun u => u j) c l ↔ ∃ u, u ∈ l ∧ u j = c
  | [] => ⟨fun h => absurd h (Nat.lt_irrefl 0), fun ⟨u, hu, _⟩ => absurd hu (by simp)⟩
  | v :: l => by
    have e : cn (fun u => u j) c (v :: l) = cn (fun u => u j) c l + (if v j = c then 1 else 0) := rfl
    rw [e]
    constructor
    · intro h
      by_cases q : v j = c
      · exact ⟨v, List.mem_cons_self, q⟩
      · rw [if_neg q] at h
        obtain ⟨u, hu, eu⟩ := cn_mem.mp (show 0 < cn (fun u => u j) c l by omega)
        exact ⟨u, List.mem_cons_of_mem _ hu, eu⟩
    · rintro ⟨u, hu, eu⟩
      rcases List.mem_cons.mp hu with q | q
      · rw [← q, if_pos eu]; omega
      · have := cn_mem.mpr ⟨u, q, eu⟩
        omega
theorem GL_sN (wR : WR A R) (hW : WV A) {i : Nat} (hi : i < aC A 2) (n : GL A S R ≠ []) : sN i (GL A S R) = sN i (FL A S R (aF A i)) := by
  have h3 := hW.1.2.1
  have h5 := hW.1.1
  have h4 := hW.1.2.2.1
  have fl := hW.2.2.1 i hi
  obtain ⟨a, b, ha, hb, h1, h2, h3'⟩ : ∃ a b, a < 3 ∧ b < 3 ∧ aF A i ≠ a ∧ aF A i ≠ b ∧ a ≠ b := by
    rcases (show aF A i = 0 ∨ aF A i = 1 ∨ aF A i = 2 by omega) with e | e | e
    · exact ⟨1, 2, by omega, by omega, by omega, by omega, by omega⟩
    · exact ⟨0, 2, by omega, by omega, by omega, by omega, by omega⟩
    · exact ⟨0, 1, by omega, by omega, by omega, by omega, by omega⟩
  have ln := GL_len (S := S) wR hW (show aF A i < 3 by omega) ha hb h1 h2 h3'
  have gp : 0 < (GL A S R).length := List.length_pos_iff.mpr n
  have pp : 0 < (FL A S R a).length * (FL A S R b).length := Nat.pos_of_ne_zero (fun z => by rw [z, Nat.mul_zero] at ln; omega)
  have fp : 0 < (FL A S R (aF A i)).length := Nat.pos_of_ne_zero (fun z => by rw [z, Nat.zero_mul] at ln; omega)
  have n6 : ∀ l, okL A l → ∀ u, u ∈ l → u i ≠ 6 := fun l hl u hu z => by
    have := hl u hu i (by omega)
    omega
  refine sN_eq n (List.length_pos_iff.mp fp) (n6 _ (GL_ok hW)) (n6 _ (FL_ok hW _)) (fun c => ?_)
  rw [← cn_mem, ← cn_mem, GL_cn (S := S) wR hW (show aF A i < 3 by omega) ha hb h1 h2 h3' (key := fun u => u i) (fun j hj u c => va_ne (fun z => hj (by rw [z]))) c]
  constructor
  · intro z
    exact Nat.pos_of_ne_zero (fun q => by rw [q, Nat.zero_mul] at z; omega)
  · intro z
    exact Nat.mul_pos z pp
end PD
