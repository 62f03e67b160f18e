/-! The class reads a law. -/
section CLR
variable {α ρ σ : Type}
theorem cl_ck {c : Prop} {d : Decidable c} {k : Option (ρ × PH)} {f : ρ → PH → Option α} : cl (@ck _ c d k) f = @ck _ c d (cl k f) := by
  unfold ck
  by_cases h : c
  · rw [if_pos h, if_pos h]
  · rw [if_neg h, if_neg h]; rfl
theorem cl_rq {o : Option Nat} {k : Nat → Option (ρ × PH)} {f : ρ → PH → Option α} : cl (rq o k) f = rq o (fun a => cl (k a) f) := by
  cases o <;> rfl
theorem cl_cl {o : Option (σ × PH)} {k : σ → PH → Option (ρ × PH)} {f : ρ → PH → Option α} : cl (cl o k) f = cl o (fun r h => cl (k r h) f) := by
  cases o <;> rfl
theorem cl_if {c : Prop} {d : Decidable c} {a b : Option (ρ × PH)} {f : ρ → PH → Option α} : cl (@ite _ c d a b) f = @ite _ c d (cl a f) (cl b f) := by
  by_cases h : c
  · rw [if_pos h, if_pos h]
  · rw [if_neg h, if_neg h]
end CLR
/-- behind a sum in brackets its sign is asked for -/
theorem pt_sg {R R' : Nat → Nat → Int32 → PH → Option (Unit × PH)} {N a : Nat} {h : PH} : (ck (hK h a = 5) <| cl (f_X5_isAtSign N a (41 : Int32) h) fun r12 h13 => if r12 = 0 then ck (hK h13 a = 5) <| cl (f_X5_fail N a (1 : Int32) h13) fun r16 h17 => f_X1_readPart_122 R R' N a h17 else f_X1_readPart_122 R R' N a h13) = (ck (hK h a = 5) <| cl (f_X5_expectSign N a (41 : Int32) h) fun r12 h13 => some ((), h13)) := by
  unfold f_X5_expectSign f_X5_expectSign_13 f_X1_readPart_122
  by_cases c : hK h a = 5
  · rw [ck_p c, ck_p c]
    simp only [cl_cl, cl_if, cl_ck, cl_s]
  · unfold ck
    rw [if_neg c, if_neg c]
/-- the tape and a law's row change -/
def Kl (x b : Nat) (h h' : PH) : Prop := Kx x (fun z => z ≠ x + 1 ∧ z ≠ b ∧ z ≠ b + 1) h h'
def LZ (X : TX) (o : Bool) (x b : Nat) (h : PH) (q : QS) : Prop := CZ X x h q.1 ∧ LW h b ∧ (x + 43 ≤ b ∧ b + 3 ≤ hz h) ∧ hI h b 0 = yb o ∧ (∃ k, k ≤ 1000 ∧ hI h b 3 = nI k) ∧ (q.1.1 = 0 → LC h b q.2.1 ∧ q.2.1.length ≤ q.1.2)
def Im (X : TX) (o : Bool) (x b : Nat) (P : QS → QS) (F : PH → Option (Unit × PH)) : Prop := ∀ h q, LZ X o x b h q → ∃ h', F h = some ((), h') ∧ Kl x b h h' ∧ LZ X o x b h' (P q)
abbrev GT0 : List Int32 → List Nat → Prop := fun _ _ => True
section CLW
variable {N x b : Nat} {X : TX} {o : Bool} {q : QS} {h h' : PH} {P : QS → QS} {l2 : Int32}
theorem LW.shp (s : Shp x h h') (l : b + 3 ≤ hz h) (n : x + 43 ≤ b) (p : LW h b) : LW h' b := by
  unfold LW IA at p ⊢
  rw [(s.2.2.1 b (by omega)).1, s.2.2.2 b 1 (by omega) (by omega) (by omega) (by omega), s.2.2.2 b 2 (by omega) (by omega) (by omega) (by omega), (s.2.2.1 (b + 1) (by omega)).1, (s.2.2.1 (b + 1) (by omega)).2, (s.2.2.1 (b + 2) (by omega)).1, (s.2.2.1 (b + 2) (by omega)).2]
  exact p
theorem Kl.rf : Kl x b h h := Kx.rf
theorem Kl.trans {h1 h2 : PH} (p : Kl x b h h1) (q : Kl x b h1 h2) : Kl x b h h2 := Kx.trans p q
theorem Kx.kl (g : Kx x (fun z => z ≠ x + 1) h h') : Kl x b h h' := g.mono (fun z hz => hz.1)
/-- only the tape changed -/
theorem LZ.tk {q' : QS} (g : Kx x (fun z => z ≠ x + 1) h h') (z : CZ X x h' q'.1) (c : q'.1.1 = 0 → q.1.1 = 0 ∧ q'.2.1 = q.2.1 ∧ q.1.2 ≤ q'.1.2) (l : LZ X o x b h q) : LZ X o x b h' q' := by
  obtain ⟨l1, l2, l3, l4, l5, l6⟩ := l
  have e := g.2 b (by omega)
  refine ⟨z, l2.shp g.1 l3.2 l3.1, ⟨l3.1, Nat.le_trans l3.2 g.1.2.1⟩, by rw [e.1]; exact l4, by rw [e.1]; exact l5, fun c0 => ?_⟩
  obtain ⟨c1, c2, c3⟩ := c c0
  obtain ⟨m1, m2⟩ := l6 c1
  rw [c2]
  exact ⟨m1.kx g (by omega) (by omega), by omega⟩
theorem getD_l {α : Type} {l m : List α} {k : Nat} {d : α} (hk : k < l.length) : (l ++ m).getD k d = l.getD k d := by
  rw [List.getD_eq_getElem?_getD, List.getD_eq_getElem?_getD, List.getElem?_append_left hk]
theorem getD_e {α : Type} {l : List α} {c d : α} : (l ++ [c]).getD l.length d = c := by
  rw [List.getD_eq_getElem?_getD, List.getElem?_append_right (Nat.le_refl _), Nat.sub_self]
  rfl
theorem z_put {c : Int32} {k : Nat} (lw : LW h b) (hk : hI h b 3 = nI k) (k1 : k ≤ 1000) : ∃ h', f_X1_put N b c h = some ((), h') ∧ (Sm h h' ∧ hz h' = hz h ∧ ∀ z, z ≠ b → z ≠ b + 1 → hI h' z = hI h z ∧ hJ h' z = hJ h z) ∧ hI h' b 0 = hI h b 0 ∧ (∃ k', k' ≤ 1000 ∧ hI h' b 3 = nI k') ∧ ∀ C : List Int32, C.length < 1000 → LC h b C → LC h' b (C ++ [c]) := by
  obtain ⟨w1, w2, w3, w4, w5⟩ := id lw
  unfold f_X1_put
  rw [ck_p w1, w2, rq_s, ck_p w4.1, w4.2, hk, ite_i (show nI 1000 ≤ nI k ↔ 1000 ≤ k from nI_leI (by decide) (by omega))]
  by_cases c1 : 1000 ≤ k
  · rw [if_pos c1]
    refine ⟨h, rfl, ⟨Sm.rfl', rfl, fun _ _ _ => ⟨rfl, rfl⟩⟩, rfl, ⟨k, k1, hk⟩, fun C hC q => ?_⟩
    have := (nI_eq (by omega) (by omega)).mp (hk.symm.trans q.2.1)
    omega
  · have e0 : hI (sI h (b + 1) k c) b = hI h b := hI_sI_ne (by omega)
    have e1 : hI (sI (sI h (b + 1) k c) b 3 (nI (k + 1))) b = va_up (hI h b) 3 (nI (k + 1)) := by rw [hI_sI_eq, e0]
    have e2 : hI (sI (sI h (b + 1) k c) b 3 (nI (k + 1))) (b + 1) = va_up (hI h (b + 1)) k c := by rw [hI_sI_ne (by omega), hI_sI_eq]
    rw [if_neg c1, rq_s, ck_p w4.1, w4.2, ck_p (nI_ix (by omega) (by decide)), ix_nI (by omega), bd_e, ck_p (show hK (sI h (b + 1) k c) b = 1 from w1), e0, hk, nI_1, bd_e]
    refine ⟨_, rfl, ⟨Sm.sI.trans Sm.sI, rfl, fun z a1 a2 => ⟨by rw [hI_sI_ne a1, hI_sI_ne a2], rfl⟩⟩, by rw [e1, va_ne (by decide)], ⟨k + 1, by omega, by rw [e1, va_eq]⟩, fun C hC q => ?_⟩
    have ek := (nI_eq (by omega) (by omega)).mp (hk.symm.trans q.2.1)
    subst ek
    refine ⟨by simp; omega, by rw [e1, va_eq]; simp, fun j hj => ?_⟩
    rw [e2]
    have hj : j < C.length + 1 := by simpa using hj
    by_cases ej : j = C.length
    · rw [ej, va_eq, getD_e]
    · rw [va_ne ej, getD_l (by omega)]
      exact q.2.2 j (by omega)
theorem gFc_0 {k : Nat} : gFc k ≠ 0 := by
  unfold gFc
  split
  · decide
  split
  · decide
  split
  · decide
  split <;> decide
theorem CZ.vb (hb : x + 43 ≤ b) (g : Sm h h' ∧ hz h' = hz h ∧ ∀ z, z ≠ b → z ≠ b + 1 → hI h' z = hI h z ∧ hJ h' z = hJ h z) {s : ZS} (q : CZ X x h s) : CZ X x h' s := q.vw hb (⟨g.1, g.2.1, fun z hz => g.2.2 z (by omega) (by omega), fun z hz => by rw [(g.2.2 z (by omega) (by omega)).1]⟩ : Vw b h h')
theorem vb_kl (g : Sm h h' ∧ hz h' = hz h ∧ ∀ z, z ≠ b → z ≠ b + 1 → hI h' z = hI h z ∧ hJ h' z = hJ h z) : Kl x b h h' := ⟨g.1.shp g.2.1, fun z hz => g.2.2 z hz.2.1 hz.2.2⟩
/-- a code is put down; there is room for it -/
theorem LZ.put {c : Int32} (l : LZ X o x b h q) (room : q.1.1 = 0 → q.2.1.length + 1 ≤ q.1.2) : ∃ h', f_X1_put N b c h = some ((), h') ∧ Kl x b h h' ∧ LZ X o x b h' (qC c q) := by
  obtain ⟨l1, l2, l3, l4, ⟨k, k1, k2⟩, l6⟩ := l
  obtain ⟨h', r1, r2, r3, r4, r5⟩ := z_put (N := N) (c := c) l2 k2 k1
  have z' := l1.vb l3.1 r2
  refine ⟨h', r1, vb_kl r2, by rw [qC_0]; exact z', l2.sm r2.1, ⟨l3.1, by rw [r2.2.1]; exact l3.2⟩, by rw [r3]; exact l4, r4, fun c0 => ?_⟩
  rw [qC_0] at c0
  have := l1.2.1
  have := l1.1.2.2.2.1.1
  have rm := room c0
  rw [qC_y c0]
  refine ⟨r5 _ (by omega) (l6 c0).1, ?_⟩
  show (q.2.1 ++ [c]).length ≤ q.1.2
  simp
  omega
/-- a step, what follows, and its code -/
theorem z_more (hN : 2000 ≤ N) {F : PH → Option (Unit × PH)} {c : Int32} {r : Nat} (im : Im X o x b P F) (rs : ∀ q', q'.1.2 ≤ X.1 → RsP X GT0 q' (P q')) (l : LZ X o x b h q) (c0 : q.1.1 = 0) (ht : xty X q.1.2 ≠ 0) : ∃ h1 h2 h3, f_X5_step N (x + 1) h = some ((), h1) ∧ F h1 = some ((), h2) ∧ f_X1_put N b c h2 = some ((), h3) ∧ Kl x b h h3 ∧ LZ X o x b h3 (qC c (P (qN X r q))) ∧ hK h1 b = 1 ∧ hK h2 b = 1 := by
  have gt := xnx_gt' ht
  have e1 : (qN X r q).1 = (0, xnx X q.1.2) := stp_0 c0
  obtain ⟨h1, a1, a2, a3⟩ := z_step hN l.1
  have l1 : LZ X o x b h1 (qN X r q) := l.tk a2 a3 (fun _ => ⟨c0, rfl, by rw [e1]; show _ ≤ xnx X q.1.2; omega⟩)
  obtain ⟨h2, b1, b2, b3⟩ := im h1 _ l1
  obtain ⟨h3, d1, d2, d3⟩ := b3.put (N := N) (c := c) (fun z => by
    obtain ⟨r1, C2, R2, r2, r3, r4, r5, r6, r7, r8, -⟩ := rs _ l1.1.2.1 z
    rw [r2, List.length_append]
    rw [e1] at r6
    have r6 : C2.length + xnx X q.1.2 ≤ (P (qN X r q)).1.2 := r6
    have : (qN X r q).2.1 = q.2.1 := rfl
    rw [this]
    have := (l.2.2.2.2.2 c0).2
    omega)
  exact ⟨h1, h2, h3, a1, b1, d1, (a2.kl.trans b2).trans d2, d3, l1.2.1.1, b3.2.1.1⟩
theorem z_sgn {c : Nat} {v : Int32} (hv : v = nI c) (hc : isG c = true) (z : CZ X x h q.1) : f_X5_isAtSign N (x + 1) v h = some (yb (sSg X q.1 c), h) := by
  rw [hv]
  exact z_isAtSign hc z
section LPS
variable {R R' : Nat → Nat → Int32 → PH → Option (Unit × PH)} {e : Nat}
theorem gT_pr : ∀ q', q'.1.2 ≤ X.1 → RsP X GT0 q' (gPart X o e q') := fun q' l => (gPart_g e 0 q' l).mono (fun _ _ _ => trivial)
theorem gT_pd : ∀ q', q'.1.2 ≤ X.1 → RsP X GT0 q' (gProd X (gPart X o e) q') := fun q' l => (gProd_g (fun q l => gPart_g e 0 q l) l).mono (fun _ _ _ => trivial)
theorem gT_su : ∀ q', q'.1.2 ≤ X.1 → RsP X GT0 q' (gSum X (gPart X o e) q') := fun q' l => (gSum_g (fun q l => gPart_g e 0 q l) l).mono (fun _ _ _ => trivial)
theorem gT_te : ∀ q', q'.1.2 ≤ X.1 → RsP X GT0 q' (gTest X (gPart X o e) q') := fun q' l => (gTest_g (fun q l => gPart_g e 0 q l) l).mono (fun _ _ _ => trivial)
theorem gT_ts : ∀ q', q'.1.2 ≤ X.1 → RsP X GT0 q' (gTests X (gPart X o e) q') := fun q' l => (gTests_g (fun q l => gPart_g e 0 q l) l).mono (fun _ _ _ => trivial)
theorem i_pl (hN : 2000 ≤ N) (im : Im X o x b (gPart X o e) (R b (x + 1) l2)) : ∀ n m i h q, i + n = 1000 → n < m → LZ X o x b h q → ∃ h', f_X1_readProduct_8 R N m b (x + 1) l2 (nI i) h = some ((), h') ∧ Kl x b h h' ∧ LZ X o x b h' (gPL X (gPart X o e) n q)
  | n, 0, i, h, q, e1, e2, l => by omega
  | 0, m + 1, i, h, q, e1, e2, l => by
    refine ⟨h, ?_, Kl.rf, l⟩
    show f_X1_readProduct_8_b R N (f_X1_readProduct_8 R N m) b (x + 1) l2 (nI i) h = _
    unfold f_X1_readProduct_8_b
    rw [if_pos (show (1000 : Int32) ≤ nI i from (nI_leI (a := 1000) (by decide) (by omega)).mpr (by omega))]
  | n + 1, m + 1, i, h, q, e1, e2, l => by
    have T := l.1.1.1.1
    show ∃ h', f_X1_readProduct_8_b R N (f_X1_readProduct_8 R N m) b (x + 1) l2 (nI i) h = some ((), h') ∧ _
    unfold f_X1_readProduct_8_b gPL
    rw [if_neg (show ¬ (1000 : Int32) ≤ nI i from fun z => by have := (nI_leI (a := 1000) (by decide) (by omega)).mp z; omega), ck_p T, z_sgn (v := 42) (c := 42) rfl (by decide) l.1, cl_s, ite_i yb0]
    by_cases c : sSg X q.1 42 = true
    · obtain ⟨h1, h2, h3, a1, a2, a3, a4, a5, a6, a7⟩ := z_more (c := -13) (r := 22) hN im gT_pr l (sSg_i.mp c).1 (sSg_t c)
      obtain ⟨h', b1, b2, b3⟩ := i_pl hN im n m (i + 1) h3 _ (by omega) (by omega) a5
      rw [if_neg (by rw [c]; decide), if_pos c, ck_p T, a1, cl_s, ck_p a6, a2, cl_s, ck_p a7, a3, cl_s, nI_1, bd_e]
      exact ⟨h', b1, a4.trans b2, b3⟩
    · rw [if_pos (sF_of c), if_neg c]
      exact ⟨h, rfl, Kl.rf, l⟩
theorem i_prod (hN : 2000 ≤ N) (im : Im X o x b (gPart X o e) (R b (x + 1) l2)) : Im X o x b (gProd X (gPart X o e)) (f_X1_readProduct_b R N b (x + 1) l2) := fun h q l => by
  obtain ⟨h1, a1, a2, a3⟩ := im h q l
  obtain ⟨h', b1, b2, b3⟩ := i_pl hN im 1000 N 0 h1 _ rfl (by omega) a3
  have b1 : f_X1_readProduct_8 R N N b (x + 1) l2 0 h1 = _ := b1
  refine ⟨h', ?_, a2.trans b2, b3⟩
  unfold f_X1_readProduct_b
  rw [ck_p l.2.1.1, a1, cl_s, b1]
theorem i_sl (hN : 2000 ≤ N) (im : Im X o x b (gProd X (gPart X o e)) (R b (x + 1) l2)) : ∀ n m i h q, i + n = 1000 → n < m → LZ X o x b h q → ∃ h', f_X1_readSum_8 R N m b (x + 1) l2 (nI i) h = some ((), h') ∧ Kl x b h h' ∧ LZ X o x b h' (gSL X (gPart X o e) n q)
  | n, 0, i, h, q, e1, e2, l => by omega
  | 0, m + 1, i, h, q, e1, e2, l => by
    refine ⟨h, ?_, Kl.rf, l⟩
    show f_X1_readSum_8_b R N (f_X1_readSum_8 R N m) b (x + 1) l2 (nI i) h = _
    unfold f_X1_readSum_8_b
    rw [if_pos (show (1000 : Int32) ≤ nI i from (nI_leI (a := 1000) (by decide) (by omega)).mpr (by omega))]
  | n + 1, m + 1, i, h, q, e1, e2, l => by
    have T := l.1.1.1.1
    show ∃ h', f_X1_readSum_8_b R N (f_X1_readSum_8 R N m) b (x + 1) l2 (nI i) h = some ((), h') ∧ _
    unfold f_X1_readSum_8_b gSL
    rw [if_neg (show ¬ (1000 : Int32) ≤ nI i from fun z => by have := (nI_leI (a := 1000) (by decide) (by omega)).mp z; omega), ck_p T, z_sgn (v := 43) (c := 43) rfl (by decide) l.1, cl_s, ite_i yb0]
    have go : ∀ (v : Int32) (r : Nat), ¬ v = 0 → q.1.1 = 0 → xty X q.1.2 ≠ 0 → ∃ h', f_X1_readSum_44 R N (f_X1_readSum_8 R N m) v b (x + 1) l2 (nI i) h = some ((), h') ∧ Kl x b h h' ∧ LZ X o x b h' (gSL X (gPart X o e) n (qC v (gProd X (gPart X o e) (qN X r q)))) := fun v r v0 c0 ht => by
      obtain ⟨h1, h2, h3, a1, a2, a3, a4, a5, a6, a7⟩ := z_more (c := v) (r := r) hN im gT_pd l c0 ht
      obtain ⟨h', b1, b2, b3⟩ := i_sl hN im n m (i + 1) h3 _ (by omega) (by omega) a5
      refine ⟨h', ?_, a4.trans b2, b3⟩
      unfold f_X1_readSum_44
      rw [if_neg v0, ck_p T, a1, cl_s, ck_p a6, a2, cl_s, ck_p a7, a3, cl_s, nI_1, bd_e]
      exact b1
    by_cases c : sSg X q.1 43 = true
    · rw [if_neg (by rw [c]; decide), if_pos c]
      exact go (-11) 20 (by decide) (sSg_i.mp c).1 (sSg_t c)
    rw [if_pos (sF_of c), if_neg c, ck_p T, z_sgn (v := 45) (c := 45) rfl (by decide) l.1, cl_s, ite_i yb0]
    by_cases c2 : sSg X q.1 45 = true
    · rw [if_neg (by rw [c2]; decide), if_pos c2]
      exact go (-12) 21 (by decide) (sSg_i.mp c2).1 (sSg_t c2)
    · rw [if_pos (sF_of c2), if_neg c2]
      exact ⟨h, rfl, Kl.rf, l⟩
theorem i_sum (hN : 2000 ≤ N) (im : Im X o x b (gProd X (gPart X o e)) (R b (x + 1) l2)) : Im X o x b (gSum X (gPart X o e)) (f_X1_readSum_b R N b (x + 1) l2) := fun h q l => by
  obtain ⟨h1, a1, a2, a3⟩ := im h q l
  obtain ⟨h', b1, b2, b3⟩ := i_sl hN im 1000 N 0 h1 _ rfl (by omega) a3
  have b1 : f_X1_readSum_8 R N N b (x + 1) l2 0 h1 = _ := b1
  refine ⟨h', ?_, a2.trans b2, b3⟩
  unfold f_X1_readSum_b
  rw [ck_p l.2.1.1, a1, cl_s, b1]
theorem i_test (hN : 2000 ≤ N) (im : Im X o x b (gSum X (gPart X o e)) (R b (x + 1) l2)) : Im X o x b (gTest X (gPart X o e)) (f_X1_readTest_b R N b (x + 1) l2) := fun h q l => by
  obtain ⟨h1, a1, a2, a3⟩ := im h q l
  unfold f_X1_readTest_b gTest
  have T := a3.1.1.1.1
  rw [ck_p l.2.1.1, a1, cl_s, ck_p T, z_sgn (v := 60) (c := 60) rfl (by decide) a3.1, cl_s, ite_i yb0]
  have go : ∀ (v : Int32) (r : Nat), ¬ v = 0 → (gSum X (gPart X o e) q).1.1 = 0 → xty X (gSum X (gPart X o e) q).1.2 ≠ 0 → ∃ h', f_X1_readTest_35 R N v b (x + 1) l2 h1 = some ((), h') ∧ Kl x b h h' ∧ LZ X o x b h' (qC v (gSum X (gPart X o e) (qN X r (gSum X (gPart X o e) q)))) := fun v r v0 c0 ht => by
    obtain ⟨g1, g2, g3, b1, b2, b3, b4, b5, b6, b7⟩ := z_more (c := v) (r := r) hN im gT_su a3 c0 ht
    refine ⟨g3, ?_, a2.trans b4, b5⟩
    unfold f_X1_readTest_35
    rw [if_neg v0, ck_p T, b1, cl_s, ck_p b6, b2, cl_s, ck_p b7, b3, cl_s]
  by_cases c : sSg X (gSum X (gPart X o e) q).1 60 = true
  · rw [if_neg (by rw [c]; decide), if_pos c]
    exact go (-9) 24 (by decide) (sSg_i.mp c).1 (sSg_t c)
  rw [if_pos (sF_of c), if_neg c, ck_p T, z_sgn (v := 61) (c := 61) rfl (by decide) a3.1, cl_s, ite_i yb0]
  by_cases c2 : sSg X (gSum X (gPart X o e) q).1 61 = true
  · rw [if_neg (by rw [c2]; decide), if_pos c2]
    exact go (-10) 25 (by decide) (sSg_i.mp c2).1 (sSg_t c2)
  · rw [if_pos (sF_of c2), if_neg c2]
    exact ⟨h1, rfl, a2, a3⟩
theorem i_tl (hN : 2000 ≤ N) (im : Im X o x b (gTest X (gPart X o e)) (R b (x + 1) l2)) : ∀ n m i h q, i + n = 1000 → n < m → LZ X o x b h q → ∃ h', f_X1_readTests_8 R N m b (x + 1) l2 (nI i) h = some ((), h') ∧ Kl x b h h' ∧ LZ X o x b h' (gTL X (gPart X o e) n q)
  | n, 0, i, h, q, e1, e2, l => by omega
  | 0, m + 1, i, h, q, e1, e2, l => by
    refine ⟨h, ?_, Kl.rf, l⟩
    show f_X1_readTests_8_b R N (f_X1_readTests_8 R N m) b (x + 1) l2 (nI i) h = _
    unfold f_X1_readTests_8_b
    rw [if_pos (show (1000 : Int32) ≤ nI i from (nI_leI (a := 1000) (by decide) (by omega)).mpr (by omega))]
  | n + 1, m + 1, i, h, q, e1, e2, l => by
    have T := l.1.1.1.1
    show ∃ h', f_X1_readTests_8_b R N (f_X1_readTests_8 R N m) b (x + 1) l2 (nI i) h = some ((), h') ∧ _
    unfold f_X1_readTests_8_b gTL
    rw [if_neg (show ¬ (1000 : Int32) ≤ nI i from fun z => by have := (nI_leI (a := 1000) (by decide) (by omega)).mp z; omega), ck_p T, z_isAt (by decide) l.1, cl_s, ite_i yb0]
    have go : ∀ (v : Int32) (r : Nat), ¬ v = 0 → q.1.1 = 0 → xty X q.1.2 ≠ 0 → ∃ h', f_X1_readTests_46 R N (f_X1_readTests_8 R N m) v b (x + 1) l2 (nI i) h = some ((), h') ∧ Kl x b h h' ∧ LZ X o x b h' (gTL X (gPart X o e) n (qC v (gTest X (gPart X o e) (qN X r q)))) := fun v r v0 c0 ht => by
      obtain ⟨h1, h2, h3, a1, a2, a3, a4, a5, a6, a7⟩ := z_more (c := v) (r := r) hN im gT_te l c0 ht
      obtain ⟨h', b1, b2, b3⟩ := i_tl hN im n m (i + 1) h3 _ (by omega) (by omega) a5
      refine ⟨h', ?_, a4.trans b2, b3⟩
      unfold f_X1_readTests_46
      rw [if_neg v0, ck_p T, a1, cl_s, ck_p a6, a2, cl_s, ck_p a7, a3, cl_s, nI_1, bd_e]
      exact b1
    by_cases c : sWd X q.1 20 = true
    · rw [if_neg (by rw [c]; decide), if_pos c]
      exact go (-7) 26 (by decide) (sWd_i.mp c).1 (sWd_t c)
    rw [if_pos (sF_of c), if_neg c, ck_p T, z_isAt (by decide) l.1, cl_s, ite_i yb0]
    by_cases c2 : sWd X q.1 21 = true
    · rw [if_neg (by rw [c2]; decide), if_pos c2]
      exact go (-8) 27 (by decide) (sWd_i.mp c2).1 (sWd_t c2)
    · rw [if_pos (sF_of c2), if_neg c2]
      exact ⟨h, rfl, Kl.rf, l⟩
theorem i_tests (hN : 2000 ≤ N) (im : Im X o x b (gTest X (gPart X o e)) (R b (x + 1) l2)) : Im X o x b (gTests X (gPart X o e)) (f_X1_readTests_b R N b (x + 1) l2) := fun h q l => by
  obtain ⟨h1, a1, a2, a3⟩ := im h q l
  obtain ⟨h', b1, b2, b3⟩ := i_tl hN im 1000 N 0 h1 _ rfl (by omega) a3
  have b1 : f_X1_readTests_8 R N N b (x + 1) l2 0 h1 = _ := b1
  refine ⟨h', ?_, a2.trans b2, b3⟩
  unfold f_X1_readTests_b
  rw [ck_p l.2.1.1, a1, cl_s, b1]
theorem z_factAt (l : LZ X o x b h q) : f_X1_factAt N b (x + 1) h = some (if gFact X o q.1 = 0 then 0 else gFc (gFact X o q.1), h) := by
  obtain ⟨z, lw, -, l0, -⟩ := id l
  have T := z.1.1.1
  unfold f_X1_factAt f_X1_factAt_58
  rw [ck_p T, z_isAt (by decide) z, cl_s, ite_i yb0]
  by_cases c1 : sWd X q.1 22 = true
  · have e : gFact X o q.1 = 1 := by unfold gFact; rw [if_pos c1]
    rw [if_neg (by rw [c1]; decide), e]; rfl
  rw [if_pos (sF_of c1), ck_p T, z_isAt (by decide) z, cl_s, ite_i yb0]
  by_cases c2 : sWd X q.1 23 = true
  · have e : gFact X o q.1 = 2 := by unfold gFact; rw [if_neg c1, if_pos c2]
    rw [if_neg (by rw [c2]; decide), e]; rfl
  rw [if_pos (sF_of c2), ck_p T, z_isAt (by decide) z, cl_s, ite_i yb0]
  by_cases c3 : sWd X q.1 24 = true
  · have e : gFact X o q.1 = 3 := by unfold gFact; rw [if_neg c1, if_neg c2, if_pos c3]
    rw [if_neg (by rw [c3]; decide), e]; rfl
  rw [if_pos (sF_of c3), ck_p lw.1, l0, ite_i yb0]
  cases o with
  | false =>
    have e : gFact X false q.1 = 0 := by unfold gFact; rw [if_neg c1, if_neg c2, if_neg c3, if_neg (fun z => by simp at z), if_neg (fun z => by simp at z)]
    rw [if_pos rfl, ck_p lw.1, ite_i yb0, if_pos rfl, e]; rfl
  | true =>
    rw [if_neg (by decide), ck_p T, z_isAt (by decide) z, cl_s, ite_i yb0]
    by_cases c4 : sWd X q.1 25 = true
    · have e : gFact X true q.1 = 4 := by unfold gFact; rw [if_neg c1, if_neg c2, if_neg c3, if_pos ⟨rfl, c4⟩]
      rw [if_neg (by rw [c4]; decide), e]; rfl
    rw [if_pos (sF_of c4), ck_p lw.1, l0, ite_i yb0, if_neg (by decide), ck_p T, z_isAt (by decide) z, cl_s, ite_i yb0]
    by_cases c5 : sWd X q.1 26 = true
    · have e : gFact X true q.1 = 5 := by unfold gFact; rw [if_neg c1, if_neg c2, if_neg c3, if_neg (fun z => c4 z.2), if_pos ⟨rfl, c5⟩]
      rw [if_neg (by rw [c5]; decide), e]; rfl
    · have e : gFact X true q.1 = 0 := by unfold gFact; rw [if_neg c1, if_neg c2, if_neg c3, if_neg (fun z => c4 z.2), if_neg (fun z => c5 z.2)]
      rw [if_pos (sF_of c5), e]; rfl
theorem z_pb (l : LZ X o x b h q) : f_X1_readPart_b R R' N b (x + 1) l2 h = if gBeg X o q.1 = true then f_X1_readPart_52 R R' N b (x + 1) l2 (if gFact X o q.1 = 0 then 0 else gFc (gFact X o q.1)) (yb (sWd X q.1 19)) (yb (sSg X q.1 40)) h else cl (f_X5_fail N (x + 1) 1 h) fun _ h18 => some ((), h18) := by
  have T := l.1.1.1.1
  unfold f_X1_readPart_b
  rw [ck_p l.2.1.1, z_factAt l, cl_s, ck_p T, z_isAt (by decide) l.1, cl_s, ck_p T, z_sgn (v := 40) (c := 40) rfl (by decide) l.1, cl_s, ite_i yb0]
  by_cases c1 : sWd X q.1 19 = true
  · rw [if_neg (by rw [c1]; decide), if_pos (gBeg_i.mpr (Or.inr (Or.inl c1)))]
  rw [if_pos (sF_of c1), ite_i yb0]
  by_cases c2 : sSg X q.1 40 = true
  · rw [if_neg (by rw [c2]; decide), if_pos (gBeg_i.mpr (Or.inr (Or.inr (Or.inl c2))))]
  rw [if_pos (sF_of c2), ck_p T, z_isAtNumber l.1, cl_s, ite_i yb0]
  by_cases c3 : sNu X q.1 = true
  · rw [if_neg (by rw [c3]; decide), if_pos (gBeg_i.mpr (Or.inr (Or.inr (Or.inr c3))))]
  rw [if_pos (sF_of c3)]
  by_cases c4 : gFact X o q.1 = 0
  · rw [if_pos (show (if gFact X o q.1 = 0 then (0 : Int32) else gFc (gFact X o q.1)) = 0 from if_pos c4), ck_p T, if_neg (fun z => by rcases gBeg_i.mp z with w | w | w | w <;> contradiction)]
  · rw [if_neg (show ¬ (if gFact X o q.1 = 0 then (0 : Int32) else gFc (gFact X o q.1)) = 0 by rw [if_neg c4]; exact gFc_0), if_pos (gBeg_i.mpr (Or.inl c4))]
theorem i_bad {k : Nat} {v : Int32} (hv : v = nI k) (hk : 1 ≤ k ∧ k ≤ 5) (l : LZ X o x b h q) : ∃ h', (cl (f_X5_fail N (x + 1) v h) fun _ h18 => some ((), h18)) = some ((), h') ∧ Kl x b h h' ∧ LZ X o x b h' (flt X k q.1, q.2) := by
  obtain ⟨h', a1, a2, a3⟩ := z_fail (N := N) hk l.1
  rw [hv, a1, cl_s]
  exact ⟨h', rfl, a2.kl, l.tk a2 a3 (fun z => absurd z (flt_n hk.1))⟩
theorem i_part0 : Im X o x b (gPart X o 0) (f_X1_readPart_b R R' N b (x + 1) 5) := fun h q l => by
  rw [z_pb l]
  show ∃ h', _ ∧ _ ∧ LZ X o x b h' (if gBeg X o q.1 = true then (flt X 5 q.1, q.2) else (flt X 1 q.1, q.2))
  by_cases c : gBeg X o q.1 = true
  · rw [if_pos c, if_pos c]
    unfold f_X1_readPart_52
    rw [if_neg (by decide), ck_p l.1.1.1.1]
    exact i_bad rfl ⟨by decide, by decide⟩ l
  · rw [if_neg c, if_neg c]
    exact i_bad rfl ⟨by decide, by decide⟩ l
/-- a code is put down, and a step made -/
theorem i_142 (hN : 2000 ≤ N) {c : Int32} {r : Nat} (l : LZ X o x b h q) (c0 : q.1.1 = 0) (ht : xty X q.1.2 ≠ 0) : ∃ h', f_X1_readPart_142 R R' N c b (x + 1) h = some ((), h') ∧ Kl x b h h' ∧ LZ X o x b h' (stp X q.1, q.2.1 ++ [c], q.2.2 ++ [r]) := by
  obtain ⟨l1, l2, l3, l4, ⟨k, k1, k2⟩, l6⟩ := id l
  obtain ⟨h1, r1, r2, r3, r4, r5⟩ := z_put (N := N) (c := c) l2 k2 k1
  have z1 := l1.vb l3.1 r2
  obtain ⟨h2, s1, s2, s3⟩ := z_step hN z1
  have gt := xnx_gt' ht
  have le := xnx_le (X := X) l1.2.1
  have x1 := l1.1.2.2.2.1.1
  obtain ⟨m1, m2⟩ := l6 c0
  have lw1 := l2.sm r2.1
  have hz1 : b + 3 ≤ hz h1 := by rw [r2.2.1]; exact l3.2
  have e := s2.2 b (by omega)
  refine ⟨h2, ?_, (vb_kl r2).trans s2.kl, s3, lw1.shp s2.1 hz1 l3.1, ⟨l3.1, Nat.le_trans hz1 s2.1.2.1⟩, by rw [e.1, r3]; exact l4, by rw [e.1]; exact r4, fun _ => ⟨(r5 _ (by omega) m1).kx s2 (by omega) (by omega), ?_⟩⟩
  · unfold f_X1_readPart_142
    rw [ck_p l2.1, r1, cl_s, ck_p z1.1.1.1, s1, cl_s]
  · show (q.2.1 ++ [c]).length ≤ (stp X q.1).2
    rw [stp_0 c0]
    simp
    omega
theorem i_part (hN : 2000 ≤ N) (hl : l2 < 5) (h1 : Im X o x b (gPart X o e) (R b (x + 1) (l2 + 1))) (h2 : Im X o x b (gTests X (gPart X o e)) (R' b (x + 1) (l2 + 1))) : Im X o x b (gPart X o (e + 1)) (f_X1_readPart_b R R' N b (x + 1) l2) := fun h q l => by
  have T := l.1.1.1.1
  rw [z_pb l]
  show ∃ h', _ ∧ _ ∧ LZ X o x b h' (if gBeg X o q.1 = true then (if sWd X q.1 19 = true then qC (-6) (gPart X o e (qN X 30 q)) else if sSg X q.1 40 = true then gCl X (gTests X (gPart X o e) (qN X 28 q)) else if gFact X o q.1 = 0 then (stp X q.1, q.2.1 ++ [nI (xnv X q.1.2)], q.2.2 ++ [100 + xnv X q.1.2]) else (stp X q.1, q.2.1 ++ [gFc (gFact X o q.1)], q.2.2 ++ [gFact X o q.1])) else (flt X 1 q.1, q.2))
  by_cases c : gBeg X o q.1 = true
  rotate_left
  · rw [if_neg c, if_neg c]
    exact i_bad rfl ⟨by decide, by decide⟩ l
  have c0 := gBeg_0 c
  rw [if_pos c, if_pos c]
  unfold f_X1_readPart_52
  rw [if_pos hl, ite_i yb0]
  by_cases cn : sWd X q.1 19 = true
  · obtain ⟨g1, g2, g3, b1, b2, b3, b4, b5, b6, b7⟩ := z_more (c := -6) (r := 30) hN h1 gT_pr l c0 (sWd_t cn)
    rw [if_neg (by rw [cn]; decide), if_pos cn, ck_p T, b1, cl_s, ck_p b6, b2, cl_s, ck_p b7, b3, cl_s]
    exact ⟨g3, rfl, b4, b5⟩
  rw [if_pos (sF_of cn), if_neg cn, ite_i yb0]
  by_cases co : sSg X q.1 40 = true
  · have gt := xnx_gt' (sSg_t co)
    have e1 : (qN X 28 q).1 = (0, xnx X q.1.2) := stp_0 c0
    obtain ⟨g1, a1, a2, a3⟩ := z_step hN l.1
    have l1 : LZ X o x b g1 (qN X 28 q) := l.tk a2 a3 (fun _ => ⟨c0, rfl, by rw [e1]; show _ ≤ xnx X q.1.2; omega⟩)
    obtain ⟨g2, b1, b2, b3⟩ := h2 g1 _ l1
    obtain ⟨g3, d1, d2, d3⟩ := z_expectSign (c := 41) hN (by decide) b3.1
    have d1 : f_X5_expectSign N (x + 1) 41 g2 = _ := d1
    rw [if_neg (by rw [co]; decide), if_pos co, ck_p T, a1, cl_s, ck_p l1.2.1.1, b1, cl_s, pt_sg, ck_p b3.1.1.1.1, d1, cl_s]
    refine ⟨g3, rfl, (a2.kl.trans b2).trans d2.kl, ?_⟩
    unfold gCl
    unfold xSn at d3
    by_cases c41 : sSg X (gTests X (gPart X o e) (qN X 28 q)).1 41 = true
    · rw [if_pos c41] at d3 ⊢
      have s0 := (sSg_i.mp c41).1
      refine b3.tk d2 d3 (fun _ => ⟨s0, rfl, ?_⟩)
      have gt2 := xnx_gt' (sSg_t c41)
      show _ ≤ (stp X _).2
      rw [stp_0 s0]
      show _ ≤ xnx X _
      omega
    · rw [if_neg c41] at d3 ⊢
      rw [stp_z (flt_n (Nat.le_refl 1))] at d3
      exact b3.tk d2 d3 (fun z => absurd z (flt_n (Nat.le_refl 1)))
  rw [if_pos (sF_of co), if_neg co]
  by_cases cf : gFact X o q.1 = 0
  · have nu : sNu X q.1 = true := by
      rcases gBeg_i.mp c with w | w | w | w
      · exact absurd cf w
      · exact absurd w cn
      · exact absurd w co
      · exact w
    have t2 := (sNu_i.mp nu).2
    have v5 := (l.1.2.2.2.2 c0).2.2.2.2 t2
    rw [if_pos (show (if gFact X o q.1 = 0 then (0 : Int32) else gFc (gFact X o q.1)) = 0 from if_pos cf), if_pos cf, ck_p T, v5]
    exact i_142 hN l c0 (by omega)
  · obtain ⟨f3, f4, f5⟩ := gFact_i.2 cf
    rw [if_neg (show ¬ (if gFact X o q.1 = 0 then (0 : Int32) else gFc (gFact X o q.1)) = 0 by rw [if_neg cf]; exact gFc_0), if_neg cf, if_neg cf]
    exact i_142 hN l c0 (by omega)
end LPS
theorem i_all (hN : 2000 ≤ N) : ∀ e d, e ≤ 5 → 5 * e + 1 ≤ d → Im X o x b (gPart X o e) ((f_grp N d).2.2.2.2 b (x + 1) (nI (5 - e)))
  | 0, 0, _, h => by omega
  | 0, d + 1, _, h => i_part0
  | e + 1, 0, _, h => by omega
  | e + 1, 1, _, h => by omega
  | e + 1, 2, _, h => by omega
  | e + 1, 3, _, h => by omega
  | e + 1, 4, _, h => by omega
  | e + 1, d + 5, l, h => by
    have e5 : nI (5 - (e + 1)) + 1 = nI (5 - e) := by rw [nI_1]; congr 1; omega
    have p1 := i_all hN e (d + 4) (by omega) (by omega)
    have p0 := i_all hN e d (by omega) (by omega)
    refine i_part hN ((nI_ltI (b := 5) (by omega) (by decide)).mpr (by omega)) (by rw [e5]; exact p1) ?_
    rw [e5]
    exact i_tests (R := fun z0 z1 z2 h => f_X1_readTest_b (f_grp N (d + 2)).2.2.1 N z0 z1 z2 h) hN (i_test (R := fun z0 z1 z2 h => f_X1_readSum_b (f_grp N (d + 1)).2.2.2.1 N z0 z1 z2 h) hN (i_sum (R := fun z0 z1 z2 h => f_X1_readProduct_b (f_grp N d).2.2.2.2 N z0 z1 z2 h) hN (i_prod hN p0)))
end CLW
