/-! From the start that the claim is given to the walk of the law; the claim out of INV. -/
theorem g_on1 {w : Cond} (i : Nat) (h : tables_1_1[i]? = some w) : w ∈ lw_tbl := List.mem_append_right _ (List.mem_append_left _ (List.mem_of_getElem? h))
theorem g_on2 {w : Cond} (i : Nat) (h : tables_1_2[i]? = some w) : w ∈ lw_tbl := List.mem_append_right _ (List.mem_append_right _ (List.mem_append_left _ (List.mem_of_getElem? h)))
theorem g_on3 {w : Cond} (i : Nat) (h : tables_1_3[i]? = some w) : w ∈ lw_tbl := List.mem_append_right _ (List.mem_append_right _ (List.mem_append_right _ (List.mem_append_left _ (List.mem_of_getElem? h))))
theorem g_on4 {w : Cond} (i : Nat) (h : tables_1_4[i]? = some w) : w ∈ lw_tbl := List.mem_append_right _ (List.mem_append_right _ (List.mem_append_right _ (List.mem_append_right _ (List.mem_append_left _ (List.mem_of_getElem? h)))))
theorem g_on5 {w : Cond} (i : Nat) (h : tables_1_5[i]? = some w) : w ∈ lw_tbl := List.mem_append_right _ (List.mem_append_right _ (List.mem_append_right _ (List.mem_append_right _ (List.mem_append_right _ (List.mem_append_left _ (List.mem_of_getElem? h))))))
theorem g_on6 {w : Cond} (i : Nat) (h : tables_1_6[i]? = some w) : w ∈ lw_tbl := List.mem_append_right _ (List.mem_append_right _ (List.mem_append_right _ (List.mem_append_right _ (List.mem_append_right _ (List.mem_append_right _ (List.mem_append_left _ (List.mem_of_getElem? h)))))))
theorem g_on7 {w : Cond} (i : Nat) (h : tables_1_7[i]? = some w) : w ∈ lw_tbl := List.mem_append_right _ (List.mem_append_right _ (List.mem_append_right _ (List.mem_append_right _ (List.mem_append_right _ (List.mem_append_right _ (List.mem_append_right _ (List.mem_append_left _ (List.mem_of_getElem? h))))))))
theorem g_on8 {w : Cond} (i : Nat) (h : tables_1_8[i]? = some w) : w ∈ lw_tbl := List.mem_append_right _ (List.mem_append_right _ (List.mem_append_right _ (List.mem_append_right _ (List.mem_append_right _ (List.mem_append_right _ (List.mem_append_right _ (List.mem_append_right _ (List.mem_append_left _ (List.mem_of_getElem? h)))))))))
theorem g_on9 {w : Cond} (i : Nat) (h : tables_1_9[i]? = some w) : w ∈ lw_tbl := List.mem_append_right _ (List.mem_append_right _ (List.mem_append_right _ (List.mem_append_right _ (List.mem_append_right _ (List.mem_append_right _ (List.mem_append_right _ (List.mem_append_right _ (List.mem_append_right _ (List.mem_of_getElem? h)))))))))
theorem all27 {P : Nat → Prop} (h : P 0 ∧ P 1 ∧ P 2 ∧ P 3 ∧ P 4 ∧ P 5 ∧ P 6 ∧ P 7 ∧ P 8 ∧ P 9 ∧ P 10 ∧ P 11 ∧ P 12 ∧ P 13 ∧ P 14 ∧ P 15 ∧ P 16 ∧ P 17 ∧ P 18 ∧ P 19 ∧ P 20 ∧ P 21 ∧ P 22 ∧ P 23 ∧ P 24 ∧ P 25 ∧ P 26) : ∀ i, i < 27 → P i := by
  intro i hi
  match i, hi with
  | 0, _ => exact h.1
  | 1, _ => exact h.2.1
  | 2, _ => exact h.2.2.1
  | 3, _ => exact h.2.2.2.1
  | 4, _ => exact h.2.2.2.2.1
  | 5, _ => exact h.2.2.2.2.2.1
  | 6, _ => exact h.2.2.2.2.2.2.1
  | 7, _ => exact h.2.2.2.2.2.2.2.1
  | 8, _ => exact h.2.2.2.2.2.2.2.2.1
  | 9, _ => exact h.2.2.2.2.2.2.2.2.2.1
  | 10, _ => exact h.2.2.2.2.2.2.2.2.2.2.1
  | 11, _ => exact h.2.2.2.2.2.2.2.2.2.2.2.1
  | 12, _ => exact h.2.2.2.2.2.2.2.2.2.2.2.2.1
  | 13, _ => exact h.2.2.2.2.2.2.2.2.2.2.2.2.2.1
  | 14, _ => exact h.2.2.2.2.2.2.2.2.2.2.2.2.2.2.1
  | 15, _ => exact h.2.2.2.2.2.2.2.2.2.2.2.2.2.2.2.1
  | 16, _ => exact h.2.2.2.2.2.2.2.2.2.2.2.2.2.2.2.2.1
  | 17, _ => exact h.2.2.2.2.2.2.2.2.2.2.2.2.2.2.2.2.2.1
  | 18, _ => exact h.2.2.2.2.2.2.2.2.2.2.2.2.2.2.2.2.2.2.1
  | 19, _ => exact h.2.2.2.2.2.2.2.2.2.2.2.2.2.2.2.2.2.2.2.1
  | 20, _ => exact h.2.2.2.2.2.2.2.2.2.2.2.2.2.2.2.2.2.2.2.2.1
  | 21, _ => exact h.2.2.2.2.2.2.2.2.2.2.2.2.2.2.2.2.2.2.2.2.2.1
  | 22, _ => exact h.2.2.2.2.2.2.2.2.2.2.2.2.2.2.2.2.2.2.2.2.2.2.1
  | 23, _ => exact h.2.2.2.2.2.2.2.2.2.2.2.2.2.2.2.2.2.2.2.2.2.2.2.1
  | 24, _ => exact h.2.2.2.2.2.2.2.2.2.2.2.2.2.2.2.2.2.2.2.2.2.2.2.2.1
  | 25, _ => exact h.2.2.2.2.2.2.2.2.2.2.2.2.2.2.2.2.2.2.2.2.2.2.2.2.2.1
  | 26, _ => exact h.2.2.2.2.2.2.2.2.2.2.2.2.2.2.2.2.2.2.2.2.2.2.2.2.2.2
  | k + 27, h => exact absurd h (by omega)
theorem all5 {P : Nat → Prop} (h : P 0 ∧ P 1 ∧ P 2 ∧ P 3 ∧ P 4) : ∀ i, i < 5 → P i := by
  intro i hi
  match i, hi with
  | 0, _ => exact h.1
  | 1, _ => exact h.2.1
  | 2, _ => exact h.2.2.1
  | 3, _ => exact h.2.2.2.1
  | 4, _ => exact h.2.2.2.2
  | k + 5, h => exact absurd h (by omega)
theorem all8 {P : Nat → Prop} (h : P 0 ∧ P 1 ∧ P 2 ∧ P 3 ∧ P 4 ∧ P 5 ∧ P 6 ∧ P 7) : ∀ i, i < 8 → P i := by
  intro i hi
  match i, hi with
  | 0, _ => exact h.1
  | 1, _ => exact h.2.1
  | 2, _ => exact h.2.2.1
  | 3, _ => exact h.2.2.2.1
  | 4, _ => exact h.2.2.2.2.1
  | 5, _ => exact h.2.2.2.2.2.1
  | 6, _ => exact h.2.2.2.2.2.2.1
  | 7, _ => exact h.2.2.2.2.2.2.2
  | k + 8, h => exact absurd h (by omega)
def n_fl : List Cond := flatC (Jvm.Cond.and given_1 narrow_1)
theorem n_at {args : Array Value} {s : State} {w : Cond} (i : Nat) (h : n_fl[i]? = some w) (hg : (Jvm.Cond.and given_1 narrow_1).before args s = true) : w.before args s = true := flat_of_before _ hg _ (List.mem_of_getElem? h)
def n_tm (i : Nat) : Term := if i < 27 then .static RX9 (wname i) "LOneSmoke$Word;" else if i = 27 then .static RX9 "ALL" "[LOneSmoke$Word;" else if i = 28 then .static RX10 "ORDERS" "[I" else if i = 29 then .string RX5 88 else .field (.string RX5 88) RJ0 "value" "[B"
theorem n_ex {args : Array Value} {s : State} (hg : (Jvm.Cond.and given_1 narrow_1).before args s = true) : ∀ i, i < 27 → (Cond.exactly (.static RX9 (wname i) "LOneSmoke$Word;") RX9).before args s = true := all27 ⟨(n_at 41 (by decide +kernel) hg), (n_at 45 (by decide +kernel) hg), (n_at 49 (by decide +kernel) hg), (n_at 53 (by decide +kernel) hg), (n_at 57 (by decide +kernel) hg), (n_at 61 (by decide +kernel) hg), (n_at 65 (by decide +kernel) hg), (n_at 69 (by decide +kernel) hg), (n_at 73 (by decide +kernel) hg), (n_at 77 (by decide +kernel) hg), (n_at 81 (by decide +kernel) hg), (n_at 85 (by decide +kernel) hg), (n_at 89 (by decide +kernel) hg), (n_at 93 (by decide +kernel) hg), (n_at 97 (by decide +kernel) hg), (n_at 133 (by decide +kernel) hg), (n_at 137 (by decide +kernel) hg), (n_at 141 (by decide +kernel) hg), (n_at 145 (by decide +kernel) hg), (n_at 121 (by decide +kernel) hg), (n_at 125 (by decide +kernel) hg), (n_at 129 (by decide +kernel) hg), (n_at 101 (by decide +kernel) hg), (n_at 105 (by decide +kernel) hg), (n_at 109 (by decide +kernel) hg), (n_at 113 (by decide +kernel) hg), (n_at 117 (by decide +kernel) hg)⟩
theorem n_cd {args : Array Value} {s : State} (hg : (Jvm.Cond.and given_1 narrow_1).before args s = true) : ∀ i, i < 27 → (Cond.eq (.field (.static RX9 (wname i) "LOneSmoke$Word;") RX9 "code" "J") (.long (wcode i))).before args s = true := all27 ⟨(n_at 43 (by decide +kernel) hg), (n_at 47 (by decide +kernel) hg), (n_at 51 (by decide +kernel) hg), (n_at 55 (by decide +kernel) hg), (n_at 59 (by decide +kernel) hg), (n_at 63 (by decide +kernel) hg), (n_at 67 (by decide +kernel) hg), (n_at 71 (by decide +kernel) hg), (n_at 75 (by decide +kernel) hg), (n_at 79 (by decide +kernel) hg), (n_at 83 (by decide +kernel) hg), (n_at 87 (by decide +kernel) hg), (n_at 91 (by decide +kernel) hg), (n_at 95 (by decide +kernel) hg), (n_at 99 (by decide +kernel) hg), (n_at 135 (by decide +kernel) hg), (n_at 139 (by decide +kernel) hg), (n_at 143 (by decide +kernel) hg), (n_at 147 (by decide +kernel) hg), (n_at 123 (by decide +kernel) hg), (n_at 127 (by decide +kernel) hg), (n_at 131 (by decide +kernel) hg), (n_at 103 (by decide +kernel) hg), (n_at 107 (by decide +kernel) hg), (n_at 111 (by decide +kernel) hg), (n_at 115 (by decide +kernel) hg), (n_at 119 (by decide +kernel) hg)⟩
theorem n_kp {args : Array Value} {s : State} (hg : (Jvm.Cond.and given_1 narrow_1).before args s = true) : ∀ i, i < 27 → (Cond.eq (.field (.static RX9 (wname i) "LOneSmoke$Word;") RX9 "kept" "Z") (.int (wkept i))).before args s = true := all27 ⟨(n_at 44 (by decide +kernel) hg), (n_at 48 (by decide +kernel) hg), (n_at 52 (by decide +kernel) hg), (n_at 56 (by decide +kernel) hg), (n_at 60 (by decide +kernel) hg), (n_at 64 (by decide +kernel) hg), (n_at 68 (by decide +kernel) hg), (n_at 72 (by decide +kernel) hg), (n_at 76 (by decide +kernel) hg), (n_at 80 (by decide +kernel) hg), (n_at 84 (by decide +kernel) hg), (n_at 88 (by decide +kernel) hg), (n_at 92 (by decide +kernel) hg), (n_at 96 (by decide +kernel) hg), (n_at 100 (by decide +kernel) hg), (n_at 136 (by decide +kernel) hg), (n_at 140 (by decide +kernel) hg), (n_at 144 (by decide +kernel) hg), (n_at 148 (by decide +kernel) hg), (n_at 124 (by decide +kernel) hg), (n_at 128 (by decide +kernel) hg), (n_at 132 (by decide +kernel) hg), (n_at 104 (by decide +kernel) hg), (n_at 108 (by decide +kernel) hg), (n_at 112 (by decide +kernel) hg), (n_at 116 (by decide +kernel) hg), (n_at 120 (by decide +kernel) hg)⟩
theorem n_el {args : Array Value} {s : State} (hg : (Jvm.Cond.and given_1 narrow_1).before args s = true) : ∀ i, i < 27 → (Cond.eq (.elem (.static RX9 "ALL" "[LOneSmoke$Word;") (.int (Int32.ofNat i))) (.static RX9 (wname i) "LOneSmoke$Word;")).before args s = true := all27 ⟨(n_at 9 (by decide +kernel) hg), (n_at 10 (by decide +kernel) hg), (n_at 11 (by decide +kernel) hg), (n_at 12 (by decide +kernel) hg), (n_at 13 (by decide +kernel) hg), (n_at 14 (by decide +kernel) hg), (n_at 15 (by decide +kernel) hg), (n_at 16 (by decide +kernel) hg), (n_at 17 (by decide +kernel) hg), (n_at 18 (by decide +kernel) hg), (n_at 19 (by decide +kernel) hg), (n_at 20 (by decide +kernel) hg), (n_at 21 (by decide +kernel) hg), (n_at 22 (by decide +kernel) hg), (n_at 23 (by decide +kernel) hg), (n_at 24 (by decide +kernel) hg), (n_at 25 (by decide +kernel) hg), (n_at 26 (by decide +kernel) hg), (n_at 27 (by decide +kernel) hg), (n_at 28 (by decide +kernel) hg), (n_at 29 (by decide +kernel) hg), (n_at 30 (by decide +kernel) hg), (n_at 31 (by decide +kernel) hg), (n_at 32 (by decide +kernel) hg), (n_at 33 (by decide +kernel) hg), (n_at 34 (by decide +kernel) hg), (n_at 35 (by decide +kernel) hg)⟩
theorem n_ls {args : Array Value} {s : State} (hts : ∀ w ∈ lw_tbl, w.before args s = true) : ∀ i, i < 27 → (Cond.laysStatic RX9 (wname i) "LOneSmoke$Word;").before args s = true := all27 ⟨(hts _ (g_on3 94 (by decide +kernel))), (hts _ (g_on3 129 (by decide +kernel))), (hts _ (g_on3 145 (by decide +kernel))), (hts _ (g_on3 147 (by decide +kernel))), (hts _ (g_on3 165 (by decide +kernel))), (hts _ (g_on3 171 (by decide +kernel))), (hts _ (g_on3 177 (by decide +kernel))), (hts _ (g_on3 185 (by decide +kernel))), (hts _ (g_on3 191 (by decide +kernel))), (hts _ (g_on3 201 (by decide +kernel))), (hts _ (g_on3 203 (by decide +kernel))), (hts _ (g_on3 209 (by decide +kernel))), (hts _ (g_on3 211 (by decide +kernel))), (hts _ (g_on3 213 (by decide +kernel))), (hts _ (g_on3 224 (by decide +kernel))), (hts _ (g_on4 47 (by decide +kernel))), (hts _ (g_on4 83 (by decide +kernel))), (hts _ (g_on4 86 (by decide +kernel))), (hts _ (g_on4 88 (by decide +kernel))), (hts _ (g_on4 33 (by decide +kernel))), (hts _ (g_on4 43 (by decide +kernel))), (hts _ (g_on4 45 (by decide +kernel))), (hts _ (g_on4 22 (by decide +kernel))), (hts _ (g_on4 25 (by decide +kernel))), (hts _ (g_on4 27 (by decide +kernel))), (hts _ (g_on4 29 (by decide +kernel))), (hts _ (g_on4 31 (by decide +kernel)))⟩
theorem n_od {args : Array Value} {s : State} (hg : (Jvm.Cond.and given_1 narrow_1).before args s = true) : ∀ i, i < 5 → (Term.elem (.static RX10 "ORDERS" "[I") (.int (Int32.ofNat i))).eval args s none [] s = some (.int (gorders i)) := all5 ⟨va_eqt (n_at 152 (by decide +kernel) hg), va_eqt (n_at 153 (by decide +kernel) hg), va_eqt (n_at 154 (by decide +kernel) hg), va_eqt (n_at 155 (by decide +kernel) hg), va_eqt (n_at 156 (by decide +kernel) hg)⟩
theorem n_sv {args : Array Value} {s : State} (hg : (Jvm.Cond.and given_1 narrow_1).before args s = true) : ∀ i, i < 8 → (Term.elem (.field (.string RX5 88) RJ0 "value" "[B") (.int (Int32.ofNat i))).eval args s none [] s = some (.int (gsingles i)) := all8 ⟨va_eqt (n_at 203 (by decide +kernel) hg), va_eqt (n_at 204 (by decide +kernel) hg), va_eqt (n_at 205 (by decide +kernel) hg), va_eqt (n_at 206 (by decide +kernel) hg), va_eqt (n_at 207 (by decide +kernel) hg), va_eqt (n_at 208 (by decide +kernel) hg), va_eqt (n_at 209 (by decide +kernel) hg), va_eqt (n_at 210 (by decide +kernel) hg)⟩
theorem n_inj : ∀ i, i < 27 → ∀ j, j < 27 → wcode i = wcode j → i = j := by decide +kernel
set_option maxHeartbeats 4000000 in
theorem st_SF {args : Array Value} {s : State} (hg : (Jvm.Cond.and given_1 narrow_1).before args s = true) (hts : ∀ w ∈ lw_tbl, w.before args s = true) (l : Launch) (D : va_G) (cy : Nat → ClassId) : ∃ ad : Nat → Nat, SF (l, s, D, cy, ad) ∧ vk_R RX5 88 "()<=+-*;" (ad 29) s := by
  have hA : ∀ a : Nat, a < s.heap.size → ¬ s.heap.size ≤ a := fun a h => Nat.not_le.mpr h
  have hO := va_Tof (args := args) (s := s) (tm := .static RX10 "ORDERS" "[I") (ty := .int) (N := 5) (f := fun j => .int (gorders j)) (A := fun a => s.heap.size ≤ a) (by decide) (n_at 150 (by decide +kernel) hg) (va_eqt (n_at 151 (by decide +kernel) hg)) (n_od hg) hA
  have hV := va_Tof (args := args) (s := s) (tm := .field (.string RX5 88) RJ0 "value" "[B") (ty := .byte) (N := 8) (f := fun j => .int (gsingles j)) (A := fun a => s.heap.size ≤ a) (by decide) (n_at 201 (by decide +kernel) hg) (va_eqt (n_at 202 (by decide +kernel) hg)) (n_sv hg) hA
  have h0 : ∀ i : Nat, ∃ a : Nat, (n_tm i).eval args s none [] s = some (.ref a) := by
    intro i
    unfold n_tm
    by_cases c : i < 27
    · rw [if_pos c]
      obtain ⟨a, _, _, _, q, _⟩ := Cond.exactly_spec (n_ex hg i c)
      exact ⟨a, q⟩
    · rw [if_neg c]
      by_cases c1 : i = 27
      · rw [if_pos c1]
        obtain ⟨a, _, _, _, q, _⟩ := Cond.exactly_spec (n_at (w := .exactly (.static RX9 "ALL" "[LOneSmoke$Word;") "[LOneSmoke$Word;") 5 (by decide +kernel) hg)
        exact ⟨a, q⟩
      · rw [if_neg c1]
        by_cases c2 : i = 28
        · rw [if_pos c2]
          obtain ⟨a, q, _⟩ := hO
          exact ⟨a, q⟩
        · rw [if_neg c2]
          by_cases c3 : i = 29
          · rw [if_pos c3]
            obtain ⟨a, _, _, _, q, _⟩ := Cond.exactly_spec (n_at (w := .exactly (.string RX5 88) RJ0) 199 (by decide +kernel) hg)
            exact ⟨a, q⟩
          · rw [if_neg c3]
            obtain ⟨a, q, _⟩ := hV
            exact ⟨a, q⟩
  obtain ⟨ad, had⟩ := Classical.axiomOfChoice h0
  have hw : ∀ i, i < 27 → (Term.static RX9 (wname i) "LOneSmoke$Word;").eval args s none [] s = some (.ref (ad i)) := fun i hi => by
    have := had i
    unfold n_tm at this
    rw [if_pos hi] at this
    exact this
  have h27 : (Term.static RX9 "ALL" "[LOneSmoke$Word;").eval args s none [] s = some (.ref (ad 27)) := had 27
  have h28 : (Term.static RX10 "ORDERS" "[I").eval args s none [] s = some (.ref (ad 28)) := had 28
  have h29 : (Term.string RX5 88).eval args s none [] s = some (.ref (ad 29)) := had 29
  have h30 : (Term.field (.string RX5 88) RJ0 "value" "[B").eval args s none [] s = some (.ref (ad 30)) := had 30
  have i9 : (Cond.initialized RX9).before args s = true := (hts _ (g_on1 15 (by decide +kernel)))
  refine ⟨ad, ⟨?_, ?_, ?_, ?_, ?_, ?_, ?_, ?_, ?_, ?_, ?_, ?_, ?_⟩, ?_⟩
  · exact fun i hi => va_Zof (n_ls hts i hi) i9 (hw i hi) hA
  · exact va_Zof (hts _ (g_on2 234 (by decide +kernel))) i9 h27 hA
  · obtain ⟨t, ht, hT⟩ := va_Tof (args := args) (s := s) (tm := .static RX9 "ALL" "[LOneSmoke$Word;") (ty := .object RX9) (N := 27) (f := fun j => .ref (ad j)) (A := fun a => s.heap.size ≤ a) (by decide) (n_at 6 (by decide +kernel) hg) (va_eqt (n_at 7 (by decide +kernel) hg)) (fun j hj => va_eqv (n_el hg j hj) (hw j hj)) hA
    cases h27.symm.trans ht
    exact hT
  · exact fun i hi => vk_OFof (hw i hi) (va_eqtl (n_cd hg i hi)) hA
  · exact fun i hi => vk_OFof (hw i hi) (va_eqt (n_kp hg i hi)) hA
  · exact va_Zof (hts _ (g_on5 166 (by decide +kernel))) (hts _ (g_on1 1 (by decide +kernel))) h28 hA
  · obtain ⟨t, ht, hT⟩ := hO
    cases h28.symm.trans ht
    exact hT
  · exact va_Oof (n_at 199 (by decide +kernel) hg) h29 hA
  · exact vk_OFof h29 h30 hA
  · exact vk_OFof h29 (va_eqt (n_at 200 (by decide +kernel) hg)) hA
  · obtain ⟨t, ht, hT⟩ := hV
    cases h30.symm.trans ht
    exact hT
  · exact va_Zof (hts _ (g_on3 16 (by decide +kernel))) (hts _ (g_on1 16 (by decide +kernel))) (va_eqt (n_at 36 (by decide +kernel) hg)) hA
  · intro i j hi hj e
    have e : ad i = ad j := e
    have e1 := va_eqtl (n_cd hg i hi)
    have e2 := va_eqtl (n_cd hg j hj)
    rw [va_fe (hw i hi), e] at e1
    rw [va_fe (hw j hj)] at e2
    have e3 := e1.symm.trans e2
    exact n_inj i hi j hj (by simpa using e3)
  · exact vk_R.of (hts _ (g_on3 2 (by decide +kernel))) h29
theorem st_TF {args : Array Value} {s : State} (hg : (Jvm.Cond.and given_1 narrow_1).before args s = true) (hts : ∀ w ∈ lw_tbl, w.before args s = true) {l : Launch} (hflags : l.flags = flags0) (D : va_G) (cy : Nat → ClassId) (ad : Nat → Nat) : TF (l, s, D, cy, ad) := by
  have hA : ∀ a : Nat, a < s.heap.size → ¬ s.heap.size ≤ a := fun a h => Nat.not_le.mpr h
  have it : (Cond.initialized Bundle.tN).before args s = true := (hts _ (g_on1 23 (by decide +kernel)))
  refine ⟨?_, vx_Zqof (hts _ (g_on6 3 (by decide +kernel))) it (n_at 157 (by decide +kernel) hg) hA, vx_Zqof (hts _ (g_on6 5 (by decide +kernel))) it (n_at 158 (by decide +kernel) hg) hA⟩
  show l.stackTraces = false
  unfold Launch.stackTraces; rw [hflags]; decide
theorem st_K {args : Array Value} {s : State} (hts : ∀ w ∈ g_tb, w.before args s = true) : ∃ (D : va_G) (cy : Nat → ClassId), va_K D vwCl (g_tys cy) s := by
  have h1 : ∀ c : Nat, ∃ q : ClassId × (Nat → Nat), ∀ r : vw_C, vwCl[c]? = some r → u_Kn s r.1 r.2.1 r.2.2 q.1 q.2 := by
    intro c
    match c with
    | 0 => obtain ⟨c, i, h⟩ := u_known (C := RX0) (T := TX0) (N := 2) (n := 2) hts in_X0 (hts _ w_242); exact ⟨(c, i), fun r e => by cases e; exact h⟩
    | 1 => obtain ⟨c, i, h⟩ := u_known (C := RX1) (T := TX1) (N := 4) (n := 4) hts in_X1 (hts _ w_407); exact ⟨(c, i), fun r e => by cases e; exact h⟩
    | 2 => obtain ⟨c, i, h⟩ := u_known (C := RX2) (T := TX2) (N := 6) (n := 6) hts in_X2 (hts _ w_202); exact ⟨(c, i), fun r e => by cases e; exact h⟩
    | 3 => obtain ⟨c, i, h⟩ := u_known (C := RX3) (T := TX3) (N := 15) (n := 15) hts in_X3 (hts _ w_348); exact ⟨(c, i), fun r e => by cases e; exact h⟩
    | 4 => obtain ⟨c, i, h⟩ := u_known (C := RX4) (T := TX4) (N := 5) (n := 5) hts in_X4 (hts _ w_208); exact ⟨(c, i), fun r e => by cases e; exact h⟩
    | 5 => obtain ⟨c, i, h⟩ := u_known (C := RX5) (T := TX5) (N := 9) (n := 9) hts in_X5 (hts _ w_163); exact ⟨(c, i), fun r e => by cases e; exact h⟩
    | 6 => obtain ⟨c, i, h⟩ := u_known (C := RX6) (T := TX6) (N := 15) (n := 15) hts in_X6 (hts _ w_401); exact ⟨(c, i), fun r e => by cases e; exact h⟩
    | 7 => obtain ⟨c, i, h⟩ := u_known (C := RX7) (T := TX7) (N := 2) (n := 2) hts in_X7 (hts _ w_556); exact ⟨(c, i), fun r e => by cases e; exact h⟩
    | 8 => obtain ⟨c, i, h⟩ := u_known (C := RX8) (T := TX8) (N := 17) (n := 17) hts in_X8 (hts _ w_285); exact ⟨(c, i), fun r e => by cases e; exact h⟩
    | 9 => obtain ⟨c, i, h⟩ := u_known (C := RX10) (T := TX10) (N := 15) (n := 15) hts in_X10 (hts _ w_155); exact ⟨(c, i), fun r e => by cases e; exact h⟩
    | 10 => obtain ⟨c, i, h⟩ := u_known (C := RX11) (T := TX11) (N := 66) (n := 66) hts in_X11 (hts _ w_1383); exact ⟨(c, i), fun r e => by cases e; exact h⟩
    | k + 11 => exact ⟨(0, fun _ => 0), fun r h => by simp [vwCl] at h⟩
  obtain ⟨f, hf⟩ := Classical.axiomOfChoice h1
  have ap : ∀ {ty : FieldType} (_ : (Cond.arrayClass ty).before args s = true), ∃ c : ClassId, ArrOfT s c ty ∧ s.vm.findClass ("[" ++ ty.toString) = some c := by
    intro ty h
    obtain ⟨c, k, comp, a1, a2, a3⟩ := Cond.arrayClass_spec h
    exact ⟨c, fun N z => ⟨(fun k h => by cases h), k, a2, comp, a3⟩, a1⟩
  have ao : ∀ {C : String} (_ : (Cond.arrayOver (.object C)).before args s = true), ∃ c : ClassId, ArrOfT s c (.object C) ∧ va_RA s c (.object C) := by
    intro C h
    obtain ⟨comp, c, k, a1, a2, a3, a4, a5⟩ := Cond.arrayOver_spec h
    exact ⟨c, fun N z => ⟨(fun k h => by cases h), k, a3, comp, a4⟩, k, comp, a3, a4, a1, a5⟩
  obtain ⟨c11, p11, q11⟩ := ap (hts _ w_200)
  obtain ⟨c12, p12, q12⟩ := ap (hts _ w_240)
  obtain ⟨c13, p13, q13⟩ := ap (hts _ w_1592)
  obtain ⟨c14, p14, q14⟩ := ap (hts _ w_425)
  obtain ⟨c15, p15, q15⟩ := ao (hts _ w_278)
  obtain ⟨c16, p16, q16⟩ := ao (hts _ w_280)
  refine ⟨(fun c => (f c).1, fun c => (f c).2), fun k => if k = 11 then c11 else if k = 12 then c12 else if k = 13 then c13 else if k = 14 then c14 else if k = 15 then c15 else c16, fun c r h => hf c r h, fun k q hk => ?_⟩
  match k, hk with
  | 0, hk => cases hk; exact ⟨p11, q11⟩
  | 1, hk => cases hk; exact ⟨p12, q12⟩
  | 2, hk => cases hk; exact ⟨p13, q13⟩
  | 3, hk => cases hk; exact ⟨p14, q14⟩
  | 4, hk => cases hk; exact ⟨p15, q15⟩
  | 5, hk => cases hk; exact ⟨p16, q16⟩
  | k + 6, hk => simp [g_tys] at hk
def ph0 (z : Nat) (ad : Nat → Nat) : PH := (z, fun _ => 99, fun _ => 0, fun _ _ => 0, fun _ _ => 0, fun _ _ => none, ad)
theorem st_H (l : Launch) (s : State) (D : va_G) (cy : Nat → ClassId) (ad : Nat → Nat) : g_H (l, s, D, cy, ad) (ph0 s.heap.size ad) s.heap := by
  refine ⟨rfl, fun a h => absurd h (by show ¬ 99 < 17; decide), ?_, rfl⟩
  have e : g_L (l, s, D, cy, ad) (ph0 s.heap.size ad) = [] := by
    unfold g_L
    exact List.filter_eq_nil_iff.mpr (fun a _ h => absurd (of_decide_eq_true h : (99 : Nat) < 17) (by decide))
  intro k q h
  unfold g_ws at h
  rw [e] at h
  simp [va_pl] at h
theorem W_room {p : Program} {l : Launch} {e : Env} {R R' : Room} {s : State} {m : MethodId} {args : Array Value} {below : List Frame} {meth : Method} {c : Code} {H : Heap} {locs : List Loc} {cells slots : Nat} {Q : State → Prop} {g : JFrame} (hf : R'.frames ≤ R.frames) (hl : R'.locals ≤ R.locals) (hc : R'.cells ≤ R.cells) (hs : R'.slots ≤ R.slots) (k : W p l e R' s m args below meth c H locs cells slots Q g) : W p l e R s m args below meth c H locs cells slots Q g := by
  intro T hT X
  have h := X.room
  refine k T hT { X with room := ?_ }
  simp only [State.hasRoom, Bool.and_eq_true, decide_eq_true_eq] at h ⊢
  obtain ⟨⟨⟨⟨h1, h2, h3, h4, h5, h6⟩, h7⟩, h8⟩, h9⟩ := h
  exact ⟨⟨⟨⟨by omega, by omega, by omega, by omega, by omega, h6⟩, by omega⟩, by omega⟩, h9⟩
def R_law : String := "OneSmokeLaw"
def lw_P (b : Addr) (xs : List Int32) (args : Array Value) (s : State) : Prop := args = #[.ref b] ∧ s.IntsAt b xs ∧ xs.length ≤ 3584 ∧ (Jvm.Cond.and given_1 narrow_1).before args s = true
def lw_Q (_ : Array Value) (s : State) (o : Outcome) (t : State) : Prop := o = .returned (some (.int 1)) ∧ Framed s o t [] 601024 7293034
def lw_Z (below : List Frame) (a : Array Value) (s : State) : State → Prop := fun t => ∃ o, t.status = .running ∧ Ended t below o ∧ lw_Q a s o t
/-- what holds at the law's entry: the machine, the code, the tables' words (any of lw_tbl by 'hts w (by decide +kernel)'), the script of L ints xs at the cell b, what the Statement gives of the start (any of its parts by flat_of_before) -/
def lw_At (p : Program) (s : State) (m : MethodId) (meth : Method) (c : Code) (b L : Nat) (xs : Nat → Int32) : Prop :=
  p.tables.exec = Jvm.exec ∧ c.code = code ∧ meth.sig.returnType = ret ∧ c.maxLocals = 7 ∧ s.vm.findClass R_law = some m.cls ∧ (∀ w ∈ lw_tbl, w.before #[Value.ref b] s = true) ∧ va_X b L xs s s.heap ∧ b < s.heap.size ∧ meth.locks = false ∧ (Jvm.Cond.and given_1 narrow_1).before #[Value.ref b] s = true
/-- what a file of invariants owes: INV knows the two objects' kinds, every duty, and holds behind the constructors -/
def INVok (INV : Nat → Nat → Nat → Nat → PH → Prop) (N : Nat) : Prop := (∀ x yy o j h, INV x yy o j h → hK h x = 9 ∧ hK h yy = 10) ∧ (∀ x yy o j, j < 512 → Duty (INV x yy o j) (INV x yy o (j + 1)) N x yy o) ∧ ∀ (z : Nat) (ad : Nat → Nat), (∀ i j, i < 27 → j < 27 → ad i = ad j → i = j) → D_init INV N (ph0 z ad)
set_option maxHeartbeats 4000000 in
theorem whole_start {INV : Nat → Nat → Nat → Nat → PH → Prop} {N : Nat} (hINV : INVok INV N) {p : Program} {e : Env} {s : State} {m : MethodId} {below : List Frame} {meth : Method} {c : Code} (l : Launch) (hflags : l.flags = flags0) {b L : Nat} {xs : Nat → Int32} (hL : L ≤ 3584) (C0 : lw_At p s m meth c b L xs) (hname : meth.name = yL_law.name) (htab : ∀ x ∈ c.exceptionTable.toList, False) : W p l e room_1 s m #[Value.ref b] below meth c s.heap [] 0 0 (lw_Z below #[Value.ref b] s) (entryFrame m ([Value.ref b] : List Value).toArray 7) := by
  obtain ⟨hx, hb, hr, hml, hown, hts, hX, hbl, hlocks, hgv⟩ := id C0
  have htg : ∀ w ∈ g_tb, w.before #[Value.ref b] s = true := fun w hw => hts w (List.mem_filter.mp hw).1
  obtain ⟨D, cy, hK⟩ := st_K htg
  obtain ⟨ad, hs, hR⟩ := st_SF hgv hts l D cy
  have ht := st_TF hgv hts hflags D cy ad
  obtain ⟨hIK, hD, hI0⟩ := hINV
  have hinj : ∀ i j, i < 27 → j < 27 → ad i = ad j → i = j := hs.2.2.2.2.2.2.2.2.2.2.2.2
  have G0 := law_entry (Γ := (l, s, D, cy, ad)) hs ht hX hbl hIK hD hL (ph0 s.heap.size ad) (hI0 s.heap.size ad hinj)
  have C : g_ctx (l, s, D, cy, ad) yL_law cL_law 7 (some .boolean) p s m #[Value.ref b] meth c := ⟨hx, hb, hr, hml, htg, hown, hlocks, hname, hK, ⟨Vm.Alike.refl s.vm, hR, Or.inl ⟨by decide, htab⟩⟩, fun _ _ => rfl, Nat.le_refl _⟩
  have hl := lv_entry ([.ref b]) (n := 7) (Nat.le_of_ble_eq_true rfl)
  rw [lg_entry_eq]
  have w := G0 p e s m #[Value.ref b] below meth c C _ s.heap [] (g_lv.of hl (fun i v h => g_prs_mem.mpr h)) (st_H l s D cy ad) va_S.rf
  refine W_room (R' := g_room (1312, 601024, 7293034)) (by decide) (by decide) (by decide) (by decide) ?_
  intro T hT X
  obtain ⟨t, a1, o, a2, a3, ⟨⟨v, h', ho, hq, _⟩, _⟩, Ls, ⟨f1, f2, f3⟩, hfree⟩ := w T hT X
  have hq : v = some (.int 1) := hq
  subst hq
  refine ⟨t, a1, o, a2, a3, ho, f1, f2, ?_⟩
  obtain ⟨g1, g2, g3, g4, g5, g6⟩ := f3
  refine ⟨g1, g2, g3, g4, g5, fun a cl ha => ?_⟩
  obtain ⟨c', k1, k2, k3, k4⟩ := g6 a cl ha
  refine ⟨c', k1, k2, k3, fun i _ => k4 i (fun hm => ?_)⟩
  have : s.heap.size ≤ a := hfree _ hm
  exact absurd (Array.getElem?_eq_some_iff.mp ha).1 (Nat.not_lt.mpr this)
set_option maxHeartbeats 4000000 in
theorem lw_walk {INV : Nat → Nat → Nat → Nat → PH → Prop} {N : Nat} (hINV : INVok INV N) (l : Launch) (hflags : l.flags = flags0) (b : Addr) (xs : List Int32) : MetFree l x (headSpec (Jvm.Cond.code x code maxLocals ret :: tables_1) room_1) (lw_P b xs) (fun _ _ _ _ _ => True) lw_Q := by
  refine MetFree.of_bodyS (code := code) (maxLocals := maxLocals) (ret := ret) (by decide) ?_ ?_
  · intro args s m h hn
    obtain ⟨meth, c, h1, h2, h3, h4, h5, h6, -, -⟩ := Cond.code_spec hn (atoms_spec (ws := Jvm.Cond.code x code maxLocals ret :: tables_1) h _ List.mem_cons_self)
    exact ⟨meth, c, h1, h2, h3, h4, h5, h6⟩
  · intro p e s m args below meth c s₁ B hml0 hP _
    obtain ⟨rfl, hx, hbd, hgv⟩ := hP
    obtain ⟨scr, harrAt, hlist, hof, hsmall⟩ := hx
    obtain ⟨hcb, hkn, -, -⟩ := State.arrayAt?_spec harrAt
    have hown : s.vm.findClass R_law = some m.cls := findClass_of_methodNamed B.named
    have hts0 : ∀ c ∈ (Jvm.Cond.code x code maxLocals ret :: tables_1), c.before #[Value.ref b] s = true := atoms_spec (ws := Jvm.Cond.code x code maxLocals ret :: tables_1) B.pre
    have hts : ∀ w ∈ lw_tbl, w.before #[Value.ref b] s = true := k2_hts_sels lw_privs (fun w hw => hts0 w (List.mem_cons_of_mem _ hw)) lw_privs_ok
    have hml : c.maxLocals = 7 := B.maxLocals_eq (hts0 _ List.mem_cons_self)
    have X₀ : Stand p l e room_1 s m #[Value.ref b] below meth c s₁ [] 0 0 := Stand.of_body B
    have hh0 : s₁.heap = s.heap := by rw [B.state]; rfl
    have hsz : scr.slots.size = xs.length := by rw [← Array.length_toList, hlist, List.length_map]
    have hval : ∀ j : Nat, j < xs.length → scr.slots[j]? = some (.int (xs.getD j 0)) := fun j hj => by
      rw [← Array.getElem?_toList, hlist]
      simp [hj]
    have hbl : b < s.heap.size := (Array.getElem?_eq_some_iff.mp hcb).1
    have hX : va_X b xs.length (fun j => xs.getD j 0) s s.heap := ⟨scr, hcb, hof, hkn, hsz, hval⟩
    have htab : ∀ x ∈ c.exceptionTable.toList, False := by
      obtain ⟨meth9, c9, h1, h2, -, -, -, -, h7, -⟩ := Cond.code_spec B.named (hts0 _ List.mem_cons_self)
      cases Option.some.inj (h1.symm.trans B.method)
      cases Option.some.inj (h2.symm.trans (Stand.of_body B).code)
      intro x hx
      rw [Array.isEmpty_iff.mp h7] at hx
      cases hx
    have K : W p l e room_1 s m #[Value.ref b] below meth c s₁.heap [] 0 0 (lw_Z below #[Value.ref b] s) (entryFrame m ([Value.ref b] : List Value).toArray 7) := by
      rw [hh0]
      exact whole_start hINV l hflags hbd ⟨B.exec, B.bytes, B.returns, hml, hown, hts, hX, hbl, B.notSynchronized, hgv⟩ (name_of_methodNamed B.named B.method).1 htab
    obtain ⟨t, a1, o, b1, b2, b3⟩ := K s₁ rfl X₀
    exact ⟨t, o, a1, b1, b2, b3⟩
theorem lw_pre_spec {args : Array Value} {s : State} (h : (Jvm.Cond.and given_1 narrow_1).before args s = true) (hr : rest_1_c.before args s = true) : ∃ (b : Addr) (xs : List Int32), lw_P b xs args s := by
  have hs := flat_of_before _ h
  have hq := flat_of_before _ hr
  have hc : (Cond.count 1).before args s = true := hs _ (by decide +kernel)
  have harr : (Cond.arrayOf (.arg 0) .int).before args s = true := hs _ (by decide +kernel)
  have hle : (Cond.le (.length (.arg 0)) (.int 3584)).before args s = true := hs _ (by decide +kernel)
  have hlen : (Cond.isInt (.length (.arg 0))).before args s = true := hq _ (by decide +kernel)
  have hall : (Cond.all (.arg 0) (.isInt (.elem (.arg 0) (.index 0)))).before args s = true := hq _ (by decide +kernel)
  obtain ⟨b, xs, hb, hx⟩ := State.ints_of_pre rfl harr hlen hall
  have hsm : xs.length < 2 ^ 31 := hx.choose_spec.2.2.2
  have hev : (Term.length (.arg 0)).eval args s none [] s = some (.int xs.length.toInt32) := hx.length_eval hb
  have hv := Cond.le_ints hev (show (Term.int 3584).eval args s none [] s = some (.int 3584) from rfl)
  have hd : xs.length.toInt32 ≤ 3584 := by
    simpa [Cond.before, Cond.holds, hv] using hle
  have hN : xs.length ≤ 3584 := (Int32.ofNat_le_ofNat hsm (by decide)).mp (show Int32.ofNat xs.length ≤ Int32.ofNat 3584 from hd)
  exact ⟨b, xs, Cond.one_arg hc (show args[0]? = some (.ref b) from hb), hx, hN, h⟩
theorem lw_comes {INV : Nat → Nat → Nat → Nat → PH → Prop} {N : Nat} (hINV : INVok INV N) (l : Launch) (hflags : l.flags = flags0) : Comes l x (Jvm.Cond.code x code maxLocals ret :: tables_1) room_1 (fun tb e args s => Calls_1 tb e args s ∧ rest_1 tb e args s ∧ Pre_1 tb e args s)
    (fun _ _ args s o t => lw_Q args s o t) := by
  intro p e ha hc hk s m args below hf hfit hheap happ hpre
  obtain ⟨b, xs, hP⟩ := lw_pre_spec hpre.2.2 hpre.2.1
  obtain ⟨k, o, h1, h2, h3, hQ⟩ := lw_walk hINV l hflags b xs p e ha hc hk s m args below hf ((Spec.applies_iff_loose hf).mp happ).1 hP trivial
  exact ⟨k, o, h1, h2, h3, hQ⟩
theorem lw_frame {s t : State} {o : Outcome} {args : Array Value} (h : Framed s o t [] 601024 7293034) :
    Framed s o t (fieldLocs frame_1_writes args s ++ arrayLocs frame_1_arrays args s ++ staticLocs frame_1_statics s) 601024 7293034 := h
theorem lw_limb {INV : Nat → Nat → Nat → Nat → PH → Prop} {N : Nat} (hINV : INVok INV N) (L : Cond) (hL : ∀ (args : Array Value) (s t : State), L.after args s (.returned (some (.int 1))) t = true) :
    ArmFor flags0 classFile x code maxLocals ret World_1 tables_1 room_1 Calls_1 rest_1 Pre_1
      (fun tb e a s o t => postC L tb e a s o t ∧ Framed s o t (fieldLocs frame_1_writes a s ++ arrayLocs frame_1_arrays a s ++ staticLocs frame_1_statics s) 601024 7293034) := by
  intro l hflags _ _ p e ha hc hk s m args below hf hfit hheap happ hpre
  obtain ⟨k, o, h1, h2, h3, rfl, hF⟩ := lw_comes hINV l hflags p e ha hc hk s m args below hf hfit hheap happ hpre
  exact ⟨k, _, h1, h2, h3, hL args s _, lw_frame hF⟩
theorem vc_of {INV : Nat → Nat → Nat → Nat → PH → Prop} {N : Nat} (hINV : INVok INV N) : Claimed_1_1 ∧ Claimed_1_2 := ⟨lw_limb hINV limb_1_1 (fun args s t => by simp [limb_1_1, Cond.after, Cond.holds, Cond.value]), lw_limb hINV limb_1_2 (fun args s t => Cond.after_iff.mpr (by
  first | (rw [show limb_1_2 = Cond.eq .result (.int 1) from rfl, Cond.eq_ints (x := 1) (y := 1) rfl rfl]; simp; done) | (simp [limb_1_2, Cond.value, Term.eval]; done)))⟩
