/-! The duty of spell: places and ways. -/
section PPB
variable {J f : Nat} {A : AV} {S : AS} {w : Int32} {u : Nat → Nat}
theorem gb_dk (hW : WV A) (hT : WS A J S) (lu : LU A S u) {V j b : Nat} {z : Nat → Nat} (hV : V < 16) (hj : j < 4) (tj : V.testBit j = true) (hz : z j = 5 ∨ al A (S2 A S u) j (z j) = true) : gb A (S2 A S u) z (aWind A (tH S + 1)) b j = dkP A S V (rkX V j) (shW (S2 A S u) z j) b := by
  have h5 := hW.1.1
  have hT2 := s2_W hW lu hT
  have tS' := hT.2.1 j hj
  have eL := s2_L (A := A) (S := S) (u := u) hj
  have eF := s2_F (A := A) (S := S) (u := u) hj
  unfold shW
  by_cases y : 0 < tL (S2 A S u) j
  · rw [if_pos y, gb_fire y]
    have n1 : ¬ (if u j = 5 then tL S j else aB A (u j)) ≤ 1 := by omega
    rw [if_neg n1] at eF
    unfold dkP
    rw [if_neg (by omega), hP_r V hV j hj tj, eL]
    by_cases e : u j = 5
    · rw [if_pos e] at eF n1
      have t0 : tF S j ≠ 0 := fun q => by
        have := tS'.2.2.1.mpr q
        omega
      rw [eF, if_pos e, if_pos (by omega), show 6 + (tF S j - 1) - 5 = tF S j by omega]
    · rw [if_neg e] at eF n1
      obtain ⟨k0, k1, k2, k3⟩ := (lu j hj).resolve_left e
      rw [eF, if_neg e, if_neg (by omega), show 6 + (u j + 1 - 1) - 5 = u j + 1 by omega, show 6 + (u j + 1 - 1) - 6 = u j by omega]
  · rw [if_neg y]
    by_cases e : z j = 5
    · rw [if_pos e, dkP_0]
      exact gb_none hT2 hj (by omega) e
    · obtain ⟨k1, k2, k3⟩ := al_c (hz.resolve_left e) e
      rw [if_neg e]
      unfold gb dkP
      rw [if_neg (by omega), if_pos (by omega), Nat.add_sub_cancel]
theorem Sg_z (hW : WV A) (hT : WS A J S) (lu : LU A S u) {z : Nat → Nat} (hz : ∀ j, j < 4 → (aHs A f).testBit j = true → z j = 5 ∨ al A (S2 A S u) j (z j) = true) : Sg A S f w (sZ (S2 A S u) (aHs A f) z) ↔ sbs A (S2 A S u) z f = w := by
  have hV := aHs_lt hW f
  have e : ∀ b, fb_sm (fun p => dkP A S (aHs A f) p (sZ (S2 A S u) (aHs A f) z p) b) 4 = sD A (S2 A S u) f (aWind A (tH S + 1)) z b 4 := fun b => psum (G := fun p => dkP A S (aHs A f) p (sZ (S2 A S u) (aHs A f) z p) b) (q := fun j => gb A (S2 A S u) z (aWind A (tH S + 1)) b j) (fun j hj tj => by
    show dkP A S (aHs A f) (rkX (aHs A f) j) (sZ (S2 A S u) (aHs A f) z (rkX (aHs A f) j)) b = _
    unfold sZ
    rw [hP_r _ hV j hj tj, if_neg (by omega)]
    exact (gb_dk hW hT lu hV hj tj (hz j hj tj)).symm) (fun i h1 h2 => by
    show dkP A S (aHs A f) i (sZ (S2 A S u) (aHs A f) z i) b = 0
    unfold sZ
    rcases hP_d _ hV i h2 with ⟨a, -⟩ | ⟨-, -, -, a⟩
    · rw [if_pos a, dkP_0]
    · omega)
  have x0 := sD_4 (A := A) (S := S2 A S u) hW (f := f) (b := 0) (u := z)
  have x1 := sD_4 (A := A) (S := S2 A S u) hW (f := f) (b := 1) (u := z)
  rw [s2_H] at x0 x1
  unfold Sg sbs
  rw [e 0, e 1, x0, x1]
theorem PW_ws (hW : WV A) (hT : WS A J S) (lu : LU A S u) : ∀ n j (z : Nat → Nat) k, n + j = 4 → (∀ p, j ≤ p → z p = 5) → (∀ p, p < 4 → (aHs A f).testBit p = true → z p = 5 ∨ al A (S2 A S u) p (z p) = true) → (PW A S f w u (4 - rkX (aHs A f) j) (rkX (aHs A f) j) (sZ (S2 A S u) (aHs A f) z) k ↔ ∃ z', z' ∈ ws (noF A (S2 A S u) f) (al A (S2 A S u)) n j z ∧ sbs A (S2 A S u) z' f = w ∧ bn z' = bn z + k)
  | 0, j, z, k, hn, hz, ho => by
    have ej : j = 4 := by omega
    subst ej
    have hV := aHs_lt hW f
    have r4 := rkX_le (aHs A f) 4
    rw [PW_dum (4 - rkX (aHs A f) 4) (rkX (aHs A f) 4) _ k (by omega) (fun p h1 h2 => by
      rcases hP_d _ hV p h2 with ⟨a, -⟩ | ⟨-, -, -, a⟩
      · exact a
      · omega)]
    have e : Sg A S f w (fun p => if p < rkX (aHs A f) 4 then sZ (S2 A S u) (aHs A f) z p else 0) ↔ Sg A S f w (sZ (S2 A S u) (aHs A f) z) := Sg_cong (fun p hp => by
      show (if p < rkX (aHs A f) 4 then sZ (S2 A S u) (aHs A f) z p else 0) = _
      by_cases l : p < rkX (aHs A f) 4
      · rw [if_pos l]
      · rw [if_neg l]
        unfold sZ
        rcases hP_d _ hV p hp with ⟨a, -⟩ | ⟨-, -, -, a⟩
        · rw [if_pos a]
        · omega)
    rw [e, Sg_z hW hT lu ho]
    constructor
    · rintro ⟨a, b⟩
      exact ⟨z, List.mem_singleton.mpr rfl, a, by rw [b, Nat.add_zero]⟩
    · rintro ⟨z', a, b, c⟩
      have a : z' = z := List.mem_singleton.mp a
      subst a
      exact ⟨b, by omega⟩
  | n + 1, j, z, k, hn, hz, ho => by
    have hV := aHs_lt hW f
    by_cases tj : (aHs A f).testBit j = true
    rotate_left
    · have nb : ¬ (noF A (S2 A S u) f).testBit j = true := fun q => tj (nf_sub j q)
      rw [ws_nob nb, ← rkX_n tj]
      exact PW_ws hW hT lu n (j + 1) z k (by omega) (fun p hp => hz p (by omega)) ho
    have hj : j < 4 := by omega
    have h5 := hW.1.1
    have r4 := rkX_lt hj tj
    have r44 := rkX_le (aHs A f) 4
    have hz5 := hz j (Nat.le_refl j)
    have rs := rkX_s tj
    have hp4 := hP_r _ hV j hj tj
    have c4 := cP_j (u := u) hV hj tj
    have eL := s2_L (A := A) (S := S) (u := u) hj
    have eF := s2_F (A := A) (S := S) (u := u) hj
    have ih := fun z' k' => PW_ws hW hT lu n (j + 1) z' k' (by omega)
    rw [rs] at ih
    have szj : ∀ z', sZ (S2 A S u) (aHs A f) z' (rkX (aHs A f) j) = shW (S2 A S u) z' j := fun z' => by
      unfold sZ
      rw [hp4, if_neg (by omega)]
    have t2 : tL (S2 A S u) j = tl2 A S j (u j) := eL
    rw [show 4 - rkX (aHs A f) j = (4 - (rkX (aHs A f) j + 1)) + 1 by omega]
    show (PW A S f w u (4 - (rkX (aHs A f) j + 1)) (rkX (aHs A f) j + 1) _ k ∨ _) ↔ _
    rw [c4]
    have ihz := ih z k (fun p hp => hz p (by omega)) ho
    by_cases y : 0 < tL (S2 A S u) j
    · have nb : ¬ (noF A (S2 A S u) f).testBit j = true := fun q => by have := (noF_b.mp q).2.2; omega
      have ei : idP A S (aHs A f) (rkX (aHs A f) j) (u j) = shW (S2 A S u) z j := by
        have n1 : ¬ (if u j = 5 then tL S j else aB A (u j)) ≤ 1 := by omega
        rw [if_neg n1] at eF
        unfold idP shW ol2
        rw [hp4, if_neg (by omega), if_pos (by omega), if_pos y, eF]
        by_cases e : u j = 5
        · rw [if_pos e, if_pos e]
        · rw [if_neg e, if_neg e, Nat.add_sub_cancel]
      rw [ws_nob nb, ← ihz]
      have cg : ∀ p, p < rkX (aHs A f) j + 1 → va_up (sZ (S2 A S u) (aHs A f) z) (rkX (aHs A f) j) (idP A S (aHs A f) (rkX (aHs A f) j) (u j)) p = sZ (S2 A S u) (aHs A f) z p := fun p hp => by
        by_cases q : p = rkX (aHs A f) j
        · rw [q, va_eq, ei, szj]
        · rw [va_ne q]
      constructor
      · rintro (a | ⟨g, g1, -⟩)
        · exact PW_cong _ _ _ _ _ (by omega) cg a
        · have := (frP_b.mp g1).2.1
          rw [hp4] at this
          omega
      · intro a
        exact Or.inl (PW_cong _ _ _ _ _ (by omega) (fun p hp => (cg p hp).symm) a)
    · have y0 : tL (S2 A S u) j = 0 := by omega
      have nb : (noF A (S2 A S u) f).testBit j = true := noF_b.mpr ⟨(aHs_b.mp tj).1, (aHs_b.mp tj).2, y0⟩
      have ei : idP A S (aHs A f) (rkX (aHs A f) j) (u j) = 0 := by
        unfold idP
        rw [hp4, if_neg (by omega), if_neg (by omega)]
      have u5' : ∀ k, k < 4 → u k ≤ 5 := fun k hk => by rcases lu k hk with e | e <;> omega
      have fb : ∀ g, (frP A S (aHs A f) (rkX (aHs A f) j) (u j)).testBit g = true ↔ (g ≠ 5 ∧ g < 5 ∧ al A (S2 A S u) j g = true) := fun g => by
        rw [frP_b, hp4]
        unfold al
        rw [Bool.or_eq_true, Bool.and_eq_true, decide_eq_true_eq, decide_eq_true_eq, decide_eq_true_eq]
        by_cases l : g < 5
        · have tt := s2_T (A := A) (S := S) u5' hj l
          by_cases e : g = u j
          · rw [if_pos e, if_pos e.symm] at *
            omega
          · rw [if_neg (fun q => e q.symm)] at tt
            rw [if_neg e]
            omega
        · omega
      have cg : ∀ g z', (g = 5 ∧ z' = z) ∨ (g ≠ 5 ∧ z' = va_up z j g) → ∀ p, p < rkX (aHs A f) j + 1 → va_up (sZ (S2 A S u) (aHs A f) z) (rkX (aHs A f) j) (if g = 5 then 0 else g + 1) p = sZ (S2 A S u) (aHs A f) z' p := fun g z' hg p hp => by
        by_cases q : p = rkX (aHs A f) j
        · rw [q, va_eq, szj]
          unfold shW
          rw [if_neg y]
          rcases hg with ⟨e, rfl⟩ | ⟨e, rfl⟩
          · rw [if_pos e, if_pos hz5]
          · rw [va_eq, if_neg e]
        · rw [va_ne q]
          rcases hg with ⟨e, rfl⟩ | ⟨e, rfl⟩
          · rfl
          · unfold sZ shW
            by_cases a : hP (aHs A f) p = 4
            · rw [if_pos a, if_pos a]
            · have nj : hP (aHs A f) p ≠ j := fun e' => by
                rcases hP_d _ hV p (by omega) with ⟨b, -⟩ | ⟨-, -, b, -⟩
                · exact a b
                · exact q (by rw [← b, e'])
              rw [if_neg a, if_neg a, va_ne nj]
      have ok1 : ∀ g, al A (S2 A S u) j g = true → ∀ p, p < 4 → (aHs A f).testBit p = true → va_up z j g p = 5 ∨ al A (S2 A S u) p (va_up z j g p) = true := fun g hg p hp tp => by
        by_cases q : p = j
        · rw [q, va_eq]; exact Or.inr hg
        · rw [va_ne q]; exact ho p hp tp
      rw [ws_bit nb, ei]
      constructor
      · rintro (a | ⟨g, g1, k', rfl, a⟩)
        · obtain ⟨z', z1, z2, z3⟩ := ihz.mp (PW_cong _ _ _ _ _ (by omega) (cg 5 z (Or.inl ⟨rfl, rfl⟩)) a)
          refine ⟨z', List.mem_flatMap.mpr ⟨5, (cl6_mem 6 0 5).mpr ⟨by omega, by omega, al5 _ _ _⟩, ?_⟩, z2, z3⟩
          rw [va_self hz5]
          exact z1
        · obtain ⟨g2, g3, g4⟩ := (fb g).mp g1
          have cg1 := cg g (va_up z j g) (Or.inr ⟨g2, rfl⟩)
          rw [if_neg g2] at cg1
          obtain ⟨z', z1, z2, z3⟩ := (ih (va_up z j g) k' (fun p hp => by rw [va_ne (by omega)]; exact hz p (by omega)) (ok1 g g4)).mp (PW_cong _ _ _ _ _ (by omega) cg1 a)
          refine ⟨z', List.mem_flatMap.mpr ⟨g, (cl6_mem 6 0 g).mpr ⟨by omega, by omega, g4⟩, z1⟩, z2, ?_⟩
          rw [z3, bn_up hj hz5 g2]
          omega
      · rintro ⟨z', z1, z2, z3⟩
        obtain ⟨g, hg, hv⟩ := List.mem_flatMap.mp z1
        obtain ⟨-, g3, g4⟩ := (cl6_mem 6 0 g).mp hg
        by_cases e : g = 5
        · rw [e, va_self hz5] at hv
          refine Or.inl (PW_cong _ _ _ _ _ (by omega) (fun p hp => (cg 5 z (Or.inl ⟨rfl, rfl⟩) p hp).symm) (ihz.mpr ⟨z', hv, z2, z3⟩))
        · have cg1 := cg g (va_up z j g) (Or.inr ⟨e, rfl⟩)
          rw [if_neg e] at cg1
          have l5 : ∀ p, j + 1 ≤ p → va_up z j g p = 5 := fun p hp => by rw [va_ne (by omega)]; exact hz p (by omega)
          have bm := bn_mono (ws_Le l5 hv)
          rw [bn_up hj hz5 e] at bm
          refine Or.inr ⟨g, (fb g).mpr ⟨e, by omega, g4⟩, k - 1, by omega, PW_cong _ _ _ _ _ (by omega) (fun p hp => (cg1 p hp).symm) ((ih (va_up z j g) (k - 1) l5 (ok1 g g4)).mpr ⟨z', hv, z2, ?_⟩)⟩
          rw [z3, bn_up hj hz5 e]
          omega
theorem PW_0 (hW : WV A) (hT : WS A J S) (lu : LU A S u) (s : Nat → Nat) (k : Nat) : PW A S f w u 4 0 s k ↔ ∃ z', z' ∈ ws (noF A (S2 A S u) f) (al A (S2 A S u)) 4 0 u5 ∧ sbs A (S2 A S u) z' f = w ∧ bn z' = k := by
  have a := PW_ws (f := f) (w := w) hW hT lu 4 0 u5 k rfl (fun _ _ => rfl) (fun _ _ _ => Or.inl rfl)
  rw [show bn u5 = 0 from rfl, Nat.zero_add] at a
  rw [← a]
  exact ⟨PW_cong 4 0 _ _ k rfl (fun p hp => absurd hp (Nat.not_lt_zero p)), PW_cong 4 0 _ _ k rfl (fun p hp => absurd hp (Nat.not_lt_zero p))⟩
/-- r is the least of most and what P says behind b -/
def Lst (P : Nat → Prop) (b most r : Nat) : Prop := (r = most ∨ ∃ k, P k ∧ r = b + k) ∧ r ≤ most ∧ ∀ k, P k → r ≤ b + k
theorem Lst.cg {P Q : Nat → Prop} {b m r : Nat} (e : ∀ k, P k ↔ Q k) (h : Lst P b m r) : Lst Q b m r := ⟨h.1.imp id (fun ⟨k, k1, k2⟩ => ⟨k, (e k).mp k1, k2⟩), h.2.1, fun k q => h.2.2 k ((e k).mpr q)⟩
theorem Lst.or {P Q : Nat → Prop} {b m r1 r2 : Nat} (h1 : Lst P b m r1) (h2 : Lst Q b r1 r2) : Lst (fun k => P k ∨ Q k) b m r2 := by
  refine ⟨?_, Nat.le_trans h2.2.1 h1.2.1, fun k q => ?_⟩
  · rcases h2.1 with e | ⟨k, k1, k2⟩
    · rcases h1.1 with e1 | ⟨k, k1, k2⟩
      · exact Or.inl (e.trans e1)
      · exact Or.inr ⟨k, Or.inl k1, e.trans k2⟩
    · exact Or.inr ⟨k, Or.inr k1, k2⟩
  · rcases q with q | q
    · exact Nat.le_trans h2.2.1 (h1.2.2 k q)
    · exact h2.2.2 k q
theorem Lst.sc {P : Nat → Prop} {b m r : Nat} (h : Lst P (b + 1) m r) : Lst (fun k => ∃ k', k = k' + 1 ∧ P k') b m r := by
  refine ⟨?_, h.2.1, ?_⟩
  · rcases h.1 with e | ⟨k, k1, k2⟩
    · exact Or.inl e
    · exact Or.inr ⟨k + 1, ⟨k, rfl, k1⟩, by omega⟩
  · rintro k ⟨k', rfl, q⟩
    have := h.2.2 k' q
    omega
theorem Lst.no {P : Nat → Prop} {b r : Nat} (h : ∀ k, P k → r ≤ b + k) : Lst P b r r := ⟨Or.inl rfl, Nat.le_refl _, h⟩
theorem Lst_sp2 (hW : WV A) (hT : WS A J S) (lu : LU A S u) {s : Nat → Nat} {b r : Nat} (e : ¬ w = -2) (h : Lst (PW A S f w u 4 0 s) (bn u) b r) : r = (if sp2 A S f w u ≠ 9 ∧ bn u + sp2 A S f w u < b then bn u + sp2 A S f w u else b) := by
  have es := sp2_e (A := A) (S := S) (f := f) (u := u) e
  have lo := fun z z1 z2 => fwL_lo (A := A) (T := S2 A S u) (f := f) (w := w) (ws (noF A (S2 A S u) f) (al A (S2 A S u)) 4 0 u5) 9 z z1 z2
  have xx := fwL_ex (A := A) (T := S2 A S u) (f := f) (w := w) (ws (noF A (S2 A S u) f) (al A (S2 A S u)) 4 0 u5) 9
  rw [← es] at xx
  rw [← es] at lo
  obtain ⟨h1, h2, h3⟩ := h
  rcases xx with x9 | ⟨z, z1, z2, z3⟩
  · rw [if_neg (fun q => q.1 x9)]
    rcases h1 with q | ⟨k, k1, -⟩
    · exact q
    · obtain ⟨z, z1, z2, z3⟩ := (PW_0 hW hT lu s k).mp k1
      have := lo z z1 z2
      have := bn_le z
      omega
  · have b4 := bn_le z
    have l1 := h3 (bn z) ((PW_0 hW hT lu s _).mpr ⟨z, z1, z3, rfl⟩)
    have l2 : r = b ∨ bn u + sp2 A S f w u ≤ r := by
      rcases h1 with q | ⟨k, k1, k2⟩
      · exact Or.inl q
      · obtain ⟨z', y1, y2, y3⟩ := (PW_0 hW hT lu s k).mp k1
        have := lo z' y1 y2
        exact Or.inr (by omega)
    by_cases c : bn u + sp2 A S f w u < b
    · rw [if_pos ⟨by omega, c⟩]
      omega
    · rw [if_neg (fun q => c q.2)]
      omega
end PPB
