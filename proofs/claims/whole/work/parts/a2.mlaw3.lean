/-! The reference's law: parts. -/
section MLY
variable {N y f l d m c p : Nat} {X : TX} {q : QS} {h h' : PH} {R : List Nat}
theorem r_fact (hl : l < 2) (l0 : MLs X y f l h q) : f_X11_fact N y h = some (nI (gFact X (lwO l) q.1), h) := by
  have M := l0.2.1.1.1.1
  have z := l0.2.1.1
  have e6 := z.2.2.2.2.1
  have e24 := l0.2.1.2.2.2
  have tl := xty_le (X := X) (p := q.1.2)
  unfold f_X11_fact
  rw [ck_p M.1, e6, ite_i (show nI (xty X q.1.2) = (1 : Int32) ↔ xty X q.1.2 = 1 from nI_eq (b := 1) (by omega) (by decide))]
  by_cases t : xty X q.1.2 = 1
  rotate_left
  · have e : gFact X (lwO l) q.1 = 0 := by
      by_cases w : gFact X (lwO l) q.1 = 0
      · exact w
      · exact absurd (gFact_i.2 w).2.1 t
    rw [if_neg t, e]; rfl
  have k : ∀ i (v : Int64), i < 27 → v = lN (k27 i) → (lg_cmp (hJ h y 7) v = 0 ↔ sWd X q.1 i = true) := fun i v hi hv => by
    rw [hv, z.2.2.2.2.2.1 t, (lg_cmp_eq _ _), kid_u (xwv_W t) hi, sWd_i]
    exact ⟨fun e => ⟨l0.1, t, e⟩, fun e => e.2.2⟩
  rw [if_pos t, ite_i (k 22 _ (by decide) kL22)]
  by_cases c1 : sWd X q.1 22 = true
  · have e : gFact X (lwO l) q.1 = 1 := by unfold gFact; rw [if_pos c1]
    rw [if_pos c1, e]; rfl
  rw [if_neg c1, ite_i (k 23 _ (by decide) kL23)]
  by_cases c2 : sWd X q.1 23 = true
  · have e : gFact X (lwO l) q.1 = 2 := by unfold gFact; rw [if_neg c1, if_pos c2]
    rw [if_pos c2, e]; rfl
  rw [if_neg c2, ite_i (k 24 _ (by decide) kL24)]
  by_cases c3 : sWd X q.1 24 = true
  · have e : gFact X (lwO l) q.1 = 3 := by unfold gFact; rw [if_neg c1, if_neg c2, if_pos c3]
    rw [if_pos c3, e]; rfl
  rw [if_neg c3, e24, ite_i (show nI l = (1 : Int32) ↔ l = 1 from nI_eq (b := 1) (by omega) (by decide))]
  by_cases cl : l = 1
  · have e : gFact X (lwO l) q.1 = 0 := by unfold gFact; rw [cl, if_neg c1, if_neg c2, if_neg c3, if_neg (fun z => absurd z.1 (by decide)), if_neg (fun z => absurd z.1 (by decide))]
    rw [if_pos cl, e]; rfl
  have cl0 : lwO l = true := decide_eq_true (by omega)
  rw [if_neg cl, ite_i (k 25 _ (by decide) kL25), cl0]
  by_cases c4 : sWd X q.1 25 = true
  · have e : gFact X true q.1 = 4 := by unfold gFact; rw [if_neg c1, if_neg c2, if_neg c3, if_pos ⟨rfl, c4⟩]
    rw [if_pos c4, e]; rfl
  rw [if_neg c4, ite_i (k 26 _ (by decide) kL26)]
  by_cases c5 : sWd X q.1 26 = true
  · have e : gFact X true q.1 = 5 := by unfold gFact; rw [if_neg c1, if_neg c2, if_neg c3, if_neg (fun z => c4 z.2), if_pos ⟨rfl, c5⟩]
    rw [if_pos c5, e]; rfl
  · have e : gFact X true q.1 = 0 := by unfold gFact; rw [if_neg c1, if_neg c2, if_neg c3, if_neg (fun z => c4 z.2), if_neg (fun z => c5 z.2)]
    rw [if_neg c5, e]; rfl
theorem nI0 {k : Nat} (hk : k < 2 ^ 31) : nI k = 0 ↔ k = 0 := nI_eq (b := 0) hk (by decide)
theorem r_pb {K : Nat → Int32 → Int32 → PH → Option (Int32 × PH)} (hl : l < 2) (l0 : MLs X y f l h q) : f_X11_reads_11_b N K y (nI d) 1 h = if gBeg X (lwO l) q.1 = true then f_X11_reads_65 N K y (nI d) 1 (nI (gFact X (lwO l) q.1)) (yb (sWd X q.1 19)) (yb (sSg X q.1 40)) h else cl (f_X11_fails N y 1 h) fun r36 h37 => ck (r36 = 0 ∨ r36 = 1) <| some (r36, h37) := by
  have M := l0.2.1.1.1.1
  have K0 := M.1
  have e6 := l0.2.1.1.2.2.2.2.1
  have tl := xty_le (X := X) (p := q.1.2)
  have f5 := (gFact_i (X := X) (o := lwO l) (s := q.1)).1
  unfold f_X11_reads_11_b
  rw [if_neg one0, ck_p K0, r_fact hl l0, cl_s, ck_p K0, l0.wd (i := 19) (v := 10631) (by decide) kL19, cl_s, ck_p K0, l0.sg (v := 40) (c := 40) rfl (by decide), cl_s, ite_i (nI0 (by omega))]
  by_cases c4 : gFact X (lwO l) q.1 = 0
  rotate_left
  · rw [if_neg c4, if_pos (gBeg_i.mpr (Or.inl c4))]
  rw [if_pos c4, ite_i yb0]
  by_cases c1 : sWd X q.1 19 = true
  · rw [if_neg (by rw [c1]; decide), if_pos (gBeg_i.mpr (Or.inr (Or.inl c1)))]
  rw [if_pos (sF_of c1), ite_i yb0]
  by_cases c2 : sSg X q.1 40 = true
  · rw [if_neg (by rw [c2]; decide), if_pos (gBeg_i.mpr (Or.inr (Or.inr (Or.inl c2))))]
  rw [if_pos (sF_of c2), ck_p K0, e6, ite_i (show nI (xty X q.1.2) = (2 : Int32) ↔ xty X q.1.2 = 2 from nI_eq (b := 2) (by omega) (by decide))]
  by_cases c3 : xty X q.1.2 = 2
  · rw [if_pos c3, if_pos (gBeg_i.mpr (Or.inr (Or.inr (Or.inr (sNu_i.mpr ⟨l0.1, c3⟩)))))]
  · rw [if_neg c3, if_neg (fun z => by
      rcases gBeg_i.mp z with w | w | w | w
      · exact w c4
      · exact c1 w
      · exact c2 w
      · exact c3 (sNu_i.mp w).2)]
/-- a fact, a number -/
theorem r_147 (hN : 2000 ≤ N) {r : Nat} {v : Int32} (hv : v = nI r) (hd : d ≤ 5) (l0 : MLs X y f l h q) (ht : xty X q.1.2 ≠ 0) : ∃ h1, (∀ K, f_X11_reads_147 N K v y y (nI d) h = K y (nI (popd (hI h (y + 15)) d)) 0 h1) ∧ MLs X y f l h1 (qN X r q) ∧ Pl y d m (f + q.2.2.length) h h1 := by
  obtain ⟨g, a1, a2, a3, a4, a5⟩ := l0.2.1.puts (N := N) (d := d) (m := m) hv (l0.room ht).1
  obtain ⟨h1, b1, b2, b3, b4, b5⟩ := l0.nx (d := d) (m := m) (c := f + q.2.2.length) hN ht a2
  refine ⟨h1, fun K => ?_, b2, a3.trans b3⟩
  unfold f_X11_reads_147
  rw [ck_p l0.2.1.1.1.1.1, a1, cl_s, r_152 a2.1.1.1 d N (by omega) hd, a4]
  unfold f_X11_reads_172
  rw [ck_p a2.1.1.1.1, b1, cl_s]
/-- ( and not -/
theorem r_86 (hN : 2000 ≤ N) {r : Nat} {b : Bool} (hb : (b = true ∧ r = 30) ∨ (b = false ∧ r = 28)) (hd : d < 5) (l0 : MLs X y f l h q) (ht : xty X q.1.2 ≠ 0) : ∃ h1, (∀ K, f_X11_reads_86 N K y (nI d) 1 (yb b) h = K y (nI (d + 1)) 1 h1) ∧ MLs X y f l h1 (qN X r q) ∧ Pl y d (d + 1) (f + q.2.2.length) h h1 ∧ hI h1 (y + 15) (d + 1) = (if b = true then 1 else 2) ∧ hI h1 (y + 16) (d + 1) = 0 := by
  obtain ⟨g, a1, a2, a3, a4, a5⟩ := l0.2.1.puts (N := N) (v := nI r) (d := d) (m := d + 1) rfl (l0.room ht).1
  have a3' : MLp X y f l (sI g (y + 15) (d + 1) (if b = true then 1 else 2)) q.1.2 (q.2.2 ++ [r]) := a2.w (Or.inl rfl)
  have a2' : MLp X y f l (sI (sI g (y + 15) (d + 1) (if b = true then 1 else 2)) (y + 16) (d + 1) ((0 : Int32) &&& 1)) q.1.2 (q.2.2 ++ [r]) := a3'.w (Or.inr rfl)
  obtain ⟨h1, b1, b2, b3, b4, b5⟩ := l0.nx (d := d) (m := d + 1) (c := f + q.2.2.length) hN ht a2'
  have Mg := a2.1.1.1
  have Mg' := a3'.1.1.1
  refine ⟨h1, fun K => ?_, b2, ((a3.trans (Pl.oo (by omega))).trans (Pl.cc (by omega))).trans b3, ?_, by rw [b5, hI_sI_eq, va_eq]; decide⟩
  · have go : ∀ v : Int32, v = (if b = true then 1 else 2) → f_X11_reads_120 N K v (nI (d + 1)) (y + 15) y (nI (d + 1)) 1 g = K y (nI (d + 1)) 1 h1 := fun v hv => by
      unfold f_X11_reads_120 f_X11_reads_172
      rw [ck_p (mK_opened Mg), mN_opened Mg, ck_p (nI_ix (by omega) (by decide)), ix_nI (by omega), hv, bd_e, ck_p Mg'.1, mR_compared Mg', rq_s, ck_p (mK_compared Mg'), mN_compared Mg', ck_p (nI_ix (by omega) (by decide)), bd_e, ck_p a2'.1.1.1.1, b1, cl_s]
    unfold f_X11_reads_86 f_X11_reads_99
    rcases hb with ⟨rfl, rfl⟩ | ⟨rfl, rfl⟩
    · have a1 : f_X11_puts N y 30 h = _ := a1
      rw [if_neg (by decide), ck_p l0.2.1.1.1.1.1, a1, cl_s, nI_1, bd_e, ck_p Mg.1, mR_opened Mg, rq_s, if_neg (by decide)]
      exact go 1 rfl
    · have a1 : f_X11_puts N y 28 h = _ := a1
      rw [if_pos (show yb false = 0 from rfl), ck_p l0.2.1.1.1.1.1, a1, cl_s, nI_1, bd_e, ck_p Mg.1, mR_opened Mg, rq_s, if_pos (show yb false = 0 from rfl)]
      exact go 2 rfl
  · rw [b4, hI_sI_ne (by omega), hI_sI_eq, va_eq]
end MLY
/-! How reading goes: to depth dr, or to a fault. -/
def Ou (N : Nat) (X : TX) (y f l d m : Nat) (q0 : QS) (h0 : PH) (F : Nat → Option (Int32 × PH)) (dr : Nat) (q' : QS) (E : PH → Prop) : Prop := ∃ h' k, (q'.1.1 = 0 ∧ MLs X y f l h' q' ∧ Pl y d m (f + q0.2.2.length) h0 h' ∧ q0.2.2.length ≤ q'.2.2.length ∧ k + q0.1.2 ≤ q'.1.2 ∧ E h' ∧ ∀ n, F (n + k) = f_X11_reads_11 N n y (nI dr) 0 h') ∨ (q'.1.1 ≠ 0 ∧ MRs X y h' q'.1 ∧ Pl y d m (f + q0.2.2.length) h0 h' ∧ k + q0.1.2 ≤ X.1 + 1 ∧ ∀ n, F (n + k) = some (0, h'))
section MLO
variable {N y f l d m dr d1 : Nat} {X : TX} {q q1 q2 : QS} {h h1 : PH} {F : Nat → Option (Int32 × PH)} {E E1 : PH → Prop}
/-- on from a good end -/
theorem Ou.bind {d' m' : Nat} (hd : d ≤ d') (hm : m ≤ m') (a : Ou N X y f l d' m' q h F d1 q1 E1) (zz : q1.1.1 ≠ 0 → q2 = q1) (b : ∀ h1, MLs X y f l h1 q1 → Pl y d m (f + q.2.2.length) h h1 → E1 h1 → Ou N X y f l d m q1 h1 (fun n => f_X11_reads_11 N n y (nI d1) 0 h1) dr q2 E) : Ou N X y f l d m q h F dr q2 E := by
  obtain ⟨h1, k, ⟨a1, a2, a3, a4, a5, a6, a7⟩ | ⟨a1, a2, a3, a4, a5⟩⟩ := a
  · have p1 := a3.mono hd hm (Nat.le_refl _)
    obtain ⟨h2, k2, ⟨b1, b2, b3, b4, b5, b6, b7⟩ | ⟨b1, b2, b3, b4, b5⟩⟩ := b h1 a2 p1 a6
    · exact ⟨h2, k2 + k, Or.inl ⟨b1, b2, p1.trans (b3.mono (Nat.le_refl _) (Nat.le_refl _) (by omega)), by omega, by omega, b6, fun n => by rw [← Nat.add_assoc, a7]; exact b7 n⟩⟩
    · exact ⟨h2, k2 + k, Or.inr ⟨b1, b2, p1.trans (b3.mono (Nat.le_refl _) (Nat.le_refl _) (by omega)), by omega, fun n => by rw [← Nat.add_assoc, a7]; exact b5 n⟩⟩
  · have e := zz a1
    exact ⟨h1, k, Or.inr ⟨by rw [e]; exact a1, by rw [e]; exact a2, a3.mono hd hm (Nat.le_refl _), a4, a5⟩⟩
/-- a step first -/
theorem Ou.step (l0 : MLs X y f l h q) (ht : xty X q.1.2 ≠ 0) {r : Nat} {G : Nat → Option (Int32 × PH)} (s1 : ∀ n, F (n + 1) = G n) (s3 : Pl y d m (f + q.2.2.length) h h1) {d' m' : Nat} (hd : d ≤ d') (hm : m ≤ m') (b : Ou N X y f l d' m' (qN X r q) h1 G dr q2 E) : Ou N X y f l d m q h F dr q2 E := by
  have e1 : (qN X r q).1 = (0, xnx X q.1.2) := stp_0 l0.1
  have gt := xnx_gt' ht
  have el : (qN X r q).2.2.length = q.2.2.length + 1 := by
    show (q.2.2 ++ [r]).length = _
    rw [List.length_append]; rfl
  obtain ⟨h2, k2, ⟨b1, b2, b3, b4, b5, b6, b7⟩ | ⟨b1, b2, b3, b4, b5⟩⟩ := b
  · rw [e1] at b5
    have b5 : k2 + xnx X q.1.2 ≤ q2.1.2 := b5
    exact ⟨h2, k2 + 1, Or.inl ⟨b1, b2, s3.trans (b3.mono hd hm (by omega)), by omega, by omega, b6, fun n => by rw [← Nat.add_assoc, s1]; exact b7 n⟩⟩
  · rw [e1] at b4
    have b4 : k2 + xnx X q.1.2 ≤ X.1 + 1 := b4
    exact ⟨h2, k2 + 1, Or.inr ⟨b1, b2, s3.trans (b3.mono hd hm (by omega)), by omega, fun n => by rw [← Nat.add_assoc, s1]; exact b5 n⟩⟩
theorem Ou.rf (l0 : MLs X y f l h q) (e : E h) : Ou N X y f l d m q h (fun n => f_X11_reads_11 N n y (nI dr) 0 h) dr q E := ⟨h, 0, Or.inl ⟨l0.1, l0, Pl.rf, Nat.le_refl _, by omega, e, fun n => rfl⟩⟩
theorem qC_2 {c : Int32} : (qC c q).2.2 = q.2.2 := by
  unfold qC
  split <;> rfl
theorem MLs.c {c : Int32} (l0 : MLs X y f l h q) : MLs X y f l h (qC c q) := by
  unfold MLs
  rw [qC_0, qC_2]
  exact l0
/-- a code of the class more -/
theorem Ou.c {c : Int32} (a : Ou N X y f l d m q h F dr q2 E) : Ou N X y f l d m q h F dr (qC c q2) E := by
  obtain ⟨h1, k, ⟨a1, a2, a3, a4, a5, a6, a7⟩ | ⟨a1, a2, a3, a4, a5⟩⟩ := a
  · exact ⟨h1, k, Or.inl ⟨by rw [qC_0]; exact a1, a2.c, a3, by rw [qC_2]; exact a4, by rw [qC_0]; exact a5, a6, a7⟩⟩
  · exact ⟨h1, k, Or.inr ⟨by rw [qC_0]; exact a1, by rw [qC_0]; exact a2, a3, a4, a5⟩⟩
end MLO
