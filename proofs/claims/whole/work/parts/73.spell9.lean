/-! The duty of spell: a search by the fewest finds what the reference finds. -/
def q2F (A : AV) (T : AS) (f : Nat) (w : Int32) (K : Nat) (v : Nat → Nat) : Bool := decide (bn v = K ∧ sbs A T v f = w)
/-- by F fuels it can be so that u comes first -/
def pF3 (A : AV) (S : AS) (f : Nat) (w1 w2 : Int32) (F : Nat) (u : Nat → Nat) : Bool := decide (sbs A S u f = w1) && (if w2 = -2 then decide (bn u = F) else (decide (bn u ≤ F) && (ws (noF A (S2 A S u) f) (al A (S2 A S u)) 4 0 u5).any (q2F A (S2 A S u) f w2 (F - bn u))))
/-- the fewest fuels behind u first (9: none) -/
def coF (A : AV) (S : AS) (f : Nat) (w1 w2 : Int32) (u : Nat → Nat) : Nat := if sbs A S u f = w1 ∧ sp2 A S f w2 u ≠ 9 then bn u + sp2 A S f w2 u else 9
section SPM
variable {A : AV} {S T : AS} {f F : Nat} {w w1 w2 : Int32} {u : Nat → Nat}
theorem fwL_le : ∀ l b, fwL A T f w l b ≤ b
  | [], _ => Nat.le_refl _
  | u :: us, b => Nat.le_trans (fwL_le us _) (by
    unfold fw1
    split
    · rename_i z; omega
    · exact Nat.le_refl _)
theorem fwL_lo : ∀ l b v, v ∈ l → sbs A T v f = w → fwL A T f w l b ≤ bn v
  | [], _, _, h, _ => absurd h (List.not_mem_nil)
  | u :: us, b, v, hv, hs => by
    show fwL A T f w us (fw1 A T f w b u) ≤ bn v
    rcases List.mem_cons.mp hv with e | hv
    · refine Nat.le_trans (fwL_le us _) ?_
      subst e
      unfold fw1
      by_cases c : bn v < b ∧ sbs A T v f = w
      · rw [if_pos c]; exact Nat.le_refl _
      · rw [if_neg c]
        have : ¬ bn v < b := fun q => c ⟨q, hs⟩
        omega
    · exact fwL_lo us _ v hv hs
theorem fwL_ex : ∀ l b, fwL A T f w l b = b ∨ ∃ v, v ∈ l ∧ bn v = fwL A T f w l b ∧ sbs A T v f = w
  | [], _ => Or.inl rfl
  | u :: us, b => by
    show fwL A T f w us (fw1 A T f w b u) = b ∨ ∃ v, v ∈ u :: us ∧ bn v = fwL A T f w us (fw1 A T f w b u) ∧ sbs A T v f = w
    rcases fwL_ex us (fw1 A T f w b u) with e | ⟨v, v1, v2, v3⟩
    · by_cases c : bn u < b ∧ sbs A T u f = w
      · have e1 : fw1 A T f w b u = bn u := if_pos c
        exact Or.inr ⟨u, List.mem_cons_self, by rw [e, e1], c.2⟩
      · have e1 : fw1 A T f w b u = b := if_neg c
        exact Or.inl (by rw [e, e1])
    · exact Or.inr ⟨v, List.mem_cons_of_mem _ v1, v2, v3⟩
theorem sp2_e (e : ¬ w2 = -2) : sp2 A S f w2 u = fwL A (S2 A S u) f w2 (ws (noF A (S2 A S u) f) (al A (S2 A S u)) 4 0 u5) 9 := by
  unfold sp2
  rw [if_neg e]
  rfl
theorem sp2_0 (e : w2 = -2) : sp2 A S f w2 u = 0 := by
  unfold sp2
  rw [if_pos e]
theorem pF_co (h : pF3 A S f w1 w2 F u = true) : coF A S f w1 w2 u ≤ F := by
  unfold pF3 at h
  rw [Bool.and_eq_true, decide_eq_true_eq] at h
  obtain ⟨h1, h2⟩ := h
  by_cases e : w2 = -2
  · rw [if_pos e, decide_eq_true_eq] at h2
    have e0 := sp2_0 (A := A) (S := S) (f := f) (u := u) e
    unfold coF
    rw [if_pos ⟨h1, by omega⟩]
    omega
  · rw [if_neg e, Bool.and_eq_true, decide_eq_true_eq, List.any_eq_true] at h2
    obtain ⟨h2, v, hv, h3⟩ := h2
    unfold q2F at h3
    rw [decide_eq_true_eq] at h3
    have l := fwL_lo (A := A) (T := S2 A S u) (f := f) (w := w2) _ 9 v hv h3.2
    have b4 := bn_le v
    rw [← sp2_e e] at l
    unfold coF
    rw [if_pos ⟨h1, by omega⟩]
    omega
theorem co_pF (h : coF A S f w1 w2 u = F) (h9 : F < 9) : pF3 A S f w1 w2 F u = true := by
  unfold coF at h
  by_cases c : sbs A S u f = w1 ∧ sp2 A S f w2 u ≠ 9
  · rw [if_pos c] at h
    unfold pF3
    rw [decide_eq_true c.1, Bool.true_and]
    by_cases e : w2 = -2
    · have e0 := sp2_0 (A := A) (S := S) (f := f) (u := u) e
      rw [if_pos e]
      exact decide_eq_true (by omega)
    · have es := sp2_e (A := A) (S := S) (f := f) (u := u) e
      rw [if_neg e, Bool.and_eq_true, decide_eq_true_eq, List.any_eq_true]
      rcases fwL_ex (A := A) (T := S2 A S u) (f := f) (w := w2) (ws (noF A (S2 A S u) f) (al A (S2 A S u)) 4 0 u5) 9 with q | ⟨v, v1, v2, v3⟩
      · exact absurd (es.trans q) c.2
      · refine ⟨by omega, v, v1, ?_⟩
        unfold q2F
        exact decide_eq_true ⟨by omega, v3⟩
  · rw [if_neg c] at h
    omega
theorem spS_co {st : Nat × (Nat → Nat)} (h9 : st.1 ≤ 9) : spS A S f w1 w2 st u = if coF A S f w1 w2 u < st.1 then (coF A S f w1 w2 u, u) else st := by
  unfold spS coF
  by_cases c : sbs A S u f = w1 ∧ sp2 A S f w2 u ≠ 9
  · rw [if_pos c]
    by_cases d : bn u + sp2 A S f w2 u < st.1
    · rw [if_pos d, if_pos ⟨by omega, c.1, c.2, d⟩]
    · rw [if_neg d, if_neg (fun z => d z.2.2.2)]
  · rw [if_neg c, if_neg (fun z => c ⟨z.2.1, z.2.2.1⟩), if_neg (by omega)]
theorem spL_id : ∀ l st, st.1 ≤ 9 → (∀ u, u ∈ l → st.1 ≤ coF A S f w1 w2 u) → spL A S f w1 w2 l st = st
  | [], _, _, _ => rfl
  | u :: us, st, h9, h => by
    show spL A S f w1 w2 us (spS A S f w1 w2 st u) = st
    have := h u List.mem_cons_self
    rw [spS_co h9, if_neg (by omega)]
    exact spL_id us st h9 (fun v hv => h v (List.mem_cons_of_mem _ hv))
theorem spL_fi : ∀ l st z, l.find? (pF3 A S f w1 w2 F) = some z → (∀ u, u ∈ l → F ≤ coF A S f w1 w2 u) → F < st.1 → st.1 ≤ 9 → spL A S f w1 w2 l st = (F, z)
  | [], _, _, h, _, _, _ => by cases h
  | u :: us, st, z, h, hc, h1, h9 => by
    show spL A S f w1 w2 us (spS A S f w1 w2 st u) = (F, z)
    have c2 := hc u List.mem_cons_self
    rw [spS_co h9]
    by_cases p : pF3 A S f w1 w2 F u = true
    · rw [List.find?_cons_of_pos p] at h
      have e : u = z := Option.some.inj h
      have c1 := pF_co p
      have c3 : coF A S f w1 w2 u = F := by omega
      rw [c3, if_pos h1, e]
      exact spL_id us (F, z) (by show F ≤ 9; omega) (fun v hv => hc v (List.mem_cons_of_mem _ hv))
    · rw [List.find?_cons_of_neg p] at h
      have c3 : coF A S f w1 w2 u ≠ F := fun q => p (co_pF q (by omega))
      by_cases d : coF A S f w1 w2 u < st.1
      · rw [if_pos d]
        exact spL_fi us _ z h (fun v hv => hc v (List.mem_cons_of_mem _ hv)) (show F < coF A S f w1 w2 u by omega) (show coF A S f w1 w2 u ≤ 9 by omega)
      · rw [if_neg d]
        exact spL_fi us st z h (fun v hv => hc v (List.mem_cons_of_mem _ hv)) h1 h9
theorem co_bd (hu : u ∈ ws (noF A S f) (al A S) 4 0 u5) : coF A S f w1 w2 u = 9 ∨ coF A S f w1 w2 u ≤ 2 * rkX (aHs A f) 4 := by
  unfold coF
  by_cases c : sbs A S u f = w1 ∧ sp2 A S f w2 u ≠ 9
  · rw [if_pos c]
    have b1 := bn_rk (V := aHs A f) (nf_sub (A := A) (S := S) (f := f)) 4 0 u5 u rfl (fun _ _ => rfl) hu
    rw [show bn u5 = 0 from rfl, show rkX (aHs A f) 0 = 0 from rfl] at b1
    refine Or.inr ?_
    by_cases e : w2 = -2
    · have e0 := sp2_0 (A := A) (S := S) (f := f) (u := u) e
      omega
    · have es := sp2_e (A := A) (S := S) (f := f) (u := u) e
      rcases fwL_ex (A := A) (T := S2 A S u) (f := f) (w := w2) (ws (noF A (S2 A S u) f) (al A (S2 A S u)) 4 0 u5) 9 with q | ⟨v, v1, v2, v3⟩
      · exact absurd (es.trans q) c.2
      · have b2 := bn_rk (V := aHs A f) (nf_sub (A := A) (S := S2 A S u) (f := f)) 4 0 u5 v rfl (fun _ _ => rfl) v1
        rw [show bn u5 = 0 from rfl, show rkX (aHs A f) 0 = 0 from rfl] at b2
        omega
  · rw [if_neg c]
    exact Or.inl rfl
theorem any_no {K : Nat} {l : List (Nat → Nat)} (h : ∀ z, z ∈ l → ¬ (bn z = K ∧ sbs A T z f = w)) : l.any (q2F A T f w K) = false := by
  rw [List.any_eq_false]
  intro z hz
  unfold q2F
  rw [decide_eq_true_eq]
  exact h z hz
theorem find_no {l : List (Nat → Nat)} (h : ∀ z, z ∈ l → ¬ pF3 A S f w1 w2 F z = true) : l.find? (pF3 A S f w1 w2 F) = none := List.find?_eq_none.mpr h
/-- by fewer fuels it can't be -/
theorem co_lo {l : List (Nat → Nat)} (h : ∀ F', F' < F → l.find? (pF3 A S f w1 w2 F') = none) (h9 : F ≤ 9) : ∀ u, u ∈ l → F ≤ coF A S f w1 w2 u := fun u hu => by
  by_cases c : coF A S f w1 w2 u < F
  · exact absurd (co_pF rfl (by omega)) (List.find?_eq_none.mp (h _ c) u hu)
  · omega
end SPM
