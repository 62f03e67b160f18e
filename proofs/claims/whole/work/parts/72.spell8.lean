/-! The duty of spell: the fewest of a list; sets of bits. -/
section SPM
variable {A : AV} {S T : AS} {f F : Nat} {w w1 w2 : Int32} {u : Nat → Nat}
theorem fwL_le : ∀ l b, fwL A T f w l b ≤ b
  | [], _ => Nat.le_refl _
  | u :: us, b => Nat.le_trans (fwL_le us _) (by
    unfold fw1
    split
    · rename_i z; omega
    · exact Nat.le_refl _)
theorem fwL_lo : ∀ l b v, v ∈ l → sbs A T v f = w → fwL A T f w l b ≤ bn v
  | [], _, _, h, _ => absurd h (List.not_mem_nil)
  | u :: us, b, v, hv, hs => by
    show fwL A T f w us (fw1 A T f w b u) ≤ bn v
    rcases List.mem_cons.mp hv with e | hv
    · refine Nat.le_trans (fwL_le us _) ?_
      subst e
      unfold fw1
      by_cases c : bn v < b ∧ sbs A T v f = w
      · rw [if_pos c]; exact Nat.le_refl _
      · rw [if_neg c]
        have : ¬ bn v < b := fun q => c ⟨q, hs⟩
        omega
    · exact fwL_lo us _ v hv hs
theorem fwL_ex : ∀ l b, fwL A T f w l b = b ∨ ∃ v, v ∈ l ∧ bn v = fwL A T f w l b ∧ sbs A T v f = w
  | [], _ => Or.inl rfl
  | u :: us, b => by
    show fwL A T f w us (fw1 A T f w b u) = b ∨ ∃ v, v ∈ u :: us ∧ bn v = fwL A T f w us (fw1 A T f w b u) ∧ sbs A T v f = w
    rcases fwL_ex us (fw1 A T f w b u) with e | ⟨v, v1, v2, v3⟩
    · by_cases c : bn u < b ∧ sbs A T u f = w
      · have e1 : fw1 A T f w b u = bn u := if_pos c
        exact Or.inr ⟨u, List.mem_cons_self, by rw [e, e1], c.2⟩
      · have e1 : fw1 A T f w b u = b := if_neg c
        exact Or.inl (by rw [e, e1])
    · exact Or.inr ⟨v, List.mem_cons_of_mem _ v1, v2, v3⟩
theorem sp2_e (e : ¬ w2 = -2) : sp2 A S f w2 u = fwL A (S2 A S u) f w2 (ws (noF A (S2 A S u) f) (al A (S2 A S u)) 4 0 u5) 9 := by
  unfold sp2
  rw [if_neg e]
  rfl
theorem sp2_0 (e : w2 = -2) : sp2 A S f w2 u = 0 := by
  unfold sp2
  rw [if_pos e]
theorem spL_le {f : Nat} {w1 w2 : Int32} : ∀ l st, (spL A S f w1 w2 l st).1 ≤ st.1
  | [], _ => Nat.le_refl _
  | u :: us, st => by
    have a := spL_le (f := f) (w1 := w1) (w2 := w2) us (spS A S f w1 w2 st u)
    have q : (spS A S f w1 w2 st u).1 ≤ st.1 := by
      unfold spS
      split
      · rename_i z
        show bn u + sp2 A S f w2 u ≤ st.1
        omega
      · exact Nat.le_refl _
    exact Nat.le_trans a q
theorem spL_in : ∀ l st, spL A S f w1 w2 l st = st ∨ (spL A S f w1 w2 l st).2 ∈ l
  | [], _ => Or.inl rfl
  | u :: us, st => by
    show spL A S f w1 w2 us (spS A S f w1 w2 st u) = st ∨ (spL A S f w1 w2 us (spS A S f w1 w2 st u)).2 ∈ u :: us
    rcases spL_in us (spS A S f w1 w2 st u) with e | e
    · rw [e]
      unfold spS
      split
      · exact Or.inr List.mem_cons_self
      · exact Or.inl rfl
    · exact Or.inr (List.mem_cons_of_mem _ e)
theorem spL_out {i : Nat} (hi : ¬ (aHs A f).testBit i = true) : (spL A S f w1 w2 (ws (noF A S f) (al A S) 4 0 u5) (9, u5)).2 i = 5 := by
  rcases spL_in (A := A) (S := S) (f := f) (w1 := w1) (w2 := w2) (ws (noF A S f) (al A S) 4 0 u5) (9, u5) with e | e
  · rw [e]; rfl
  · rcases ws_all 4 0 u5 _ e i with q | ⟨q, -⟩
    · rw [q]; rfl
    · exact absurd (aHs_b.mpr ⟨(noF_b.mp q).1, (noF_b.mp q).2.1⟩) hi
end SPM
section BI
theorem bt_nI {n i : Nat} (hi : i < 32) : bt (nI n) i = n.testBit i := by
  unfold bt
  show (BitVec.ofNat 32 n).getLsbD i = _
  rw [BitVec.getLsbD_ofNat, decide_eq_true hi, Bool.true_and]
theorem nI_sr {n k : Nat} (hn : n < 2 ^ 31) (hk : k < 32) : nI n >>> (nI k &&& 31) = nI (n >>> k) := b_ext (fun i hi => by
  rw [b_sshr k hk _ hi, bt_nI hi, Nat.testBit_shiftRight]
  by_cases c : k + i < 32
  · rw [if_pos c, bt_nI c]
  · rw [if_neg c, bt_nI (by decide), Nat.testBit_lt_two_pow hn, Nat.testBit_lt_two_pow (Nat.lt_of_lt_of_le hn (Nat.pow_le_pow_right (by decide) (by omega)))])
theorem bitI {Y f : Nat} (hY : Y < 2 ^ 31) (hf : f < 32) : ((nI Y >>> (nI f &&& 31)) &&& (1 : Int32)) = 0 ↔ Y.testBit f = false := by
  have hs : Y >>> f ≤ Y := by
    rw [Nat.shiftRight_eq_div_pow]
    exact Nat.div_le_self _ _
  rw [nI_sr hY hf]
  show nI (Y >>> f) &&& nI 1 = 0 ↔ _
  rw [nx_and, Nat.and_one_is_mod, ← nI_0, nI_eq (by omega) (by omega), Nat.testBit_eq_decide_div_mod_eq, Nat.shiftRight_eq_div_pow, decide_eq_false_iff_not]
  generalize Y / 2 ^ f = z
  omega
theorem nI_or (a b : Nat) : nI a ||| nI b = nI (a ||| b) := by
  apply Int32.toBitVec_inj.1
  show BitVec.ofNat 32 a ||| BitVec.ofNat 32 b = BitVec.ofNat 32 (a ||| b)
  apply BitVec.eq_of_getLsbD_eq
  intro i hi
  simp [hi]
theorem sh12 : ∀ f, f < 12 → ((1 : Int32) <<< (nI f &&& 31)) = nI (2 ^ f) := by decide +kernel
theorem sl1 : ∀ F, F < 32 → (nI F <<< ((1 : Int32) &&& 31)) = nI (2 * F) := by decide +kernel
theorem tb_2 {F s : Nat} : (2 * F).testBit s = (decide (1 ≤ s) && F.testBit (s - 1)) := by
  match s with
  | 0 =>
    rw [Nat.testBit_zero, decide_eq_false (show ¬ 2 * F % 2 = 1 by omega), decide_eq_false (show ¬ 1 ≤ 0 by omega), Bool.false_and]
  | s + 1 => rw [Nat.testBit_succ, Nat.mul_div_cancel_left F (by decide : 0 < 2), decide_eq_true (show 1 ≤ s + 1 by omega), Bool.true_and, Nat.add_sub_cancel]
/-- bits that both have, the first one's a place higher -/
theorem bit_any {R F : Nat} (hR : R < 2 ^ 31) (hF : F < 2 ^ 31) : ((nI R >>> ((1 : Int32) &&& 31)) &&& nI F) = 0 ↔ ∀ g, ¬ (F.testBit g = true ∧ R.testBit (g + 1) = true) := by
  have e : nI R >>> ((1 : Int32) &&& 31) = nI (R >>> 1) := nI_sr hR (k := 1) (by decide)
  have l : (R >>> 1) &&& F < 2 ^ 31 := Nat.lt_of_le_of_lt Nat.and_le_right hF
  rw [e, nx_and, ← nI_0, nI_eq l (by omega)]
  constructor
  · intro z g q
    have := congrArg (fun n => n.testBit g) z
    simp only [Nat.testBit_and, Nat.testBit_shiftRight, Nat.zero_testBit] at this
    rw [show 1 + g = g + 1 by omega, q.1, q.2] at this
    exact absurd this (by decide)
  · intro z
    apply Nat.eq_of_testBit_eq
    intro g
    rw [Nat.testBit_and, Nat.testBit_shiftRight, Nat.zero_testBit, Nat.add_comm]
    cases h1 : R.testBit (g + 1)
    · rfl
    · cases h2 : F.testBit g
      · rfl
      · exact absurd ⟨h2, h1⟩ (z g)
theorem or_lt {a b n : Nat} (ha : a < 2 ^ n) (hb : b < 2 ^ n) : a ||| b < 2 ^ n := Nat.or_lt_two_pow ha hb
theorem tb_lt {a s n : Nat} (ha : a < 2 ^ n) (h : a.testBit s = true) : s < n := by
  by_cases c : s < n
  · exact c
  · rw [Nat.testBit_lt_two_pow (Nat.lt_of_lt_of_le ha (Nat.pow_le_pow_right (by decide) (by omega)))] at h
    cases h
end BI
