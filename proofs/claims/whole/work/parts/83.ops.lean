/-! What is asked of a token: both sides. -/
def xEx (X : TX) (i : Nat) (s : ZS) : ZS := stp X (if sWd X s i = true then s else flt X 1 s)
def xSn (X : TX) (c : Nat) (s : ZS) : ZS := stp X (if sSg X s c = true then s else flt X 1 s)
def xNu (X : TX) (a b : Nat) (s : ZS) : ZS := stp X (if sNu X s = true then (if a ≤ xnv X s.2 ∧ xnv X s.2 ≤ b then s else flt X 4 s) else flt X 1 s)
section XOP
variable {X : TX} {s : ZS}
theorem stp_z (h : s.1 ≠ 0) : stp X s = s := if_neg h
theorem stp_0 (h : s.1 = 0) : stp X s = (0, xnx X s.2) := if_pos h
theorem flt_z {k : Nat} (h : s.1 ≠ 0) : flt X k s = s := if_neg h
theorem flt_0 {k : Nat} (h : s.1 = 0) : flt X k s = (k + 16 * xbg X s.2, s.2) := if_pos h
theorem flt_n {k : Nat} (hk : 1 ≤ k) : (flt X k s).1 ≠ 0 := by
  by_cases h : s.1 = 0
  · rw [flt_0 h]
    show k + 16 * xbg X s.2 ≠ 0
    omega
  · rw [flt_z h]; exact h
theorem stp_n : (stp X s).1 = 0 ↔ s.1 = 0 := by
  by_cases h : s.1 = 0
  · rw [stp_0 h]; exact ⟨fun _ => h, fun _ => rfl⟩
  · rw [stp_z h]
theorem sF_of {b : Bool} (h : ¬ b = true) : b = false := by simpa using h
theorem xEx_z {i : Nat} (h : s.1 ≠ 0) : xEx X i s = s := by
  unfold xEx
  rw [if_neg (fun z => h (sWd_i.mp z).1), flt_z h, stp_z h]
theorem xSn_z {c : Nat} (h : s.1 ≠ 0) : xSn X c s = s := by
  unfold xSn
  rw [if_neg (fun z => h (sSg_i.mp z).1), flt_z h, stp_z h]
theorem xNu_z {a b : Nat} (h : s.1 ≠ 0) : xNu X a b s = s := by
  unfold xNu
  rw [if_neg (fun z => h (sNu_i.mp z).1), flt_z h, stp_z h]
theorem xEx_y {i : Nat} (h : sWd X s i = true) : xEx X i s = (0, xnx X s.2) := by
  unfold xEx
  rw [if_pos h, stp_0 (sWd_i.mp h).1]
theorem xSn_y {c : Nat} (h : sSg X s c = true) : xSn X c s = (0, xnx X s.2) := by
  unfold xSn
  rw [if_pos h, stp_0 (sSg_i.mp h).1]
theorem xNu_y {a b : Nat} (h : sNu X s = true) (h2 : a ≤ xnv X s.2 ∧ xnv X s.2 ≤ b) : xNu X a b s = (0, xnx X s.2) := by
  unfold xNu
  rw [if_pos h, if_pos h2, stp_0 (sNu_i.mp h).1]
theorem xEx_n {i : Nat} (h0 : s.1 = 0) (h : ¬ sWd X s i = true) : xEx X i s = (1 + 16 * xbg X s.2, s.2) := by
  unfold xEx
  rw [if_neg h, stp_z (flt_n (Nat.le_refl 1)), flt_0 h0]
theorem xSn_n {c : Nat} (h0 : s.1 = 0) (h : ¬ sSg X s c = true) : xSn X c s = (1 + 16 * xbg X s.2, s.2) := by
  unfold xSn
  rw [if_neg h, stp_z (flt_n (Nat.le_refl 1)), flt_0 h0]
theorem xNu_n {a b : Nat} (h0 : s.1 = 0) (h : ¬ sNu X s = true) : xNu X a b s = (1 + 16 * xbg X s.2, s.2) := by
  unfold xNu
  rw [if_neg h, stp_z (flt_n (Nat.le_refl 1)), flt_0 h0]
theorem xNu_r {a b : Nat} (h : sNu X s = true) (h2 : ¬ (a ≤ xnv X s.2 ∧ xnv X s.2 ≤ b)) : xNu X a b s = (4 + 16 * xbg X s.2, s.2) := by
  unfold xNu
  rw [if_pos h, if_neg h2, stp_z (flt_n (by decide)), flt_0 (sNu_i.mp h).1]
theorem xEx_s {i : Nat} (h : (xEx X i s).1 = 0) : sWd X s i = true := by
  by_cases c : sWd X s i = true
  · exact c
  · unfold xEx at h
    rw [if_neg c] at h
    exact absurd (stp_n.mp h) (flt_n (Nat.le_refl 1))
theorem xSn_s {c : Nat} (h : (xSn X c s).1 = 0) : sSg X s c = true := by
  by_cases q : sSg X s c = true
  · exact q
  · unfold xSn at h
    rw [if_neg q] at h
    exact absurd (stp_n.mp h) (flt_n (Nat.le_refl 1))
theorem xNu_s {a b : Nat} (h : (xNu X a b s).1 = 0) : sNu X s = true ∧ a ≤ xnv X s.2 ∧ xnv X s.2 ≤ b := by
  by_cases c : sNu X s = true
  · by_cases d : a ≤ xnv X s.2 ∧ xnv X s.2 ≤ b
    · exact ⟨c, d⟩
    · rw [xNu_r c d] at h
      have h : 4 + 16 * xbg X s.2 = 0 := h
      omega
  · unfold xNu at h
    rw [if_neg c] at h
    exact absurd (stp_n.mp h) (flt_n (Nat.le_refl 1))
end XOP
section COP
variable {N x : Nat} {X : TX} {s : ZS} {h : PH}
theorem z_e13 (hN : 2000 ≤ N) (z : CZ X x h s) : ∃ h', f_X5_expect_13 N (x + 1) h = some ((), h') ∧ Kx x (fun z => z ≠ x + 1) h h' ∧ CZ X x h' (stp X s) := by
  obtain ⟨h', r1, r2, r3⟩ := z_step hN z
  unfold f_X5_expect_13
  rw [ck_p z.1.1.1, r1, cl_s]
  exact ⟨h', rfl, r2, r3⟩
theorem z_s13 (hN : 2000 ≤ N) (z : CZ X x h s) : ∃ h', f_X5_expectSign_13 N (x + 1) h = some ((), h') ∧ Kx x (fun z => z ≠ x + 1) h h' ∧ CZ X x h' (stp X s) := by
  obtain ⟨h', r1, r2, r3⟩ := z_step hN z
  unfold f_X5_expectSign_13
  rw [ck_p z.1.1.1, r1, cl_s]
  exact ⟨h', rfl, r2, r3⟩
theorem z_expect (hN : 2000 ≤ N) {i : Nat} (hi : i < 27) (z : CZ X x h s) : ∃ h', f_X5_expect N (x + 1) (hW h i) h = some ((), h') ∧ Kx x (fun z => z ≠ x + 1) h h' ∧ CZ X x h' (xEx X i s) := by
  unfold f_X5_expect xEx
  rw [ck_p z.1.1.1, z_isAt hi z, cl_s, ite_i yb0]
  by_cases c : sWd X s i = true
  · rw [if_neg (by rw [c]; decide), if_pos c]
    exact z_e13 hN z
  · obtain ⟨g, r1, r2, r3⟩ := z_fail (N := N) (k := 1) ⟨by decide, by decide⟩ z
    obtain ⟨h', s1, s2, s3⟩ := z_e13 hN r3
    have r1 : f_X5_fail N (x + 1) 1 h = _ := r1
    rw [if_pos (sF_of c), if_neg c, ck_p z.1.1.1, r1, cl_s]
    exact ⟨h', s1, r2.trans s2, s3⟩
theorem z_expectSign (hN : 2000 ≤ N) {c : Nat} (hc : isG c = true) (z : CZ X x h s) : ∃ h', f_X5_expectSign N (x + 1) (nI c) h = some ((), h') ∧ Kx x (fun z => z ≠ x + 1) h h' ∧ CZ X x h' (xSn X c s) := by
  unfold f_X5_expectSign xSn
  rw [ck_p z.1.1.1, z_isAtSign hc z, cl_s, ite_i yb0]
  by_cases q : sSg X s c = true
  · rw [if_neg (by rw [q]; decide), if_pos q]
    exact z_s13 hN z
  · obtain ⟨g, r1, r2, r3⟩ := z_fail (N := N) (k := 1) ⟨by decide, by decide⟩ z
    obtain ⟨h', s1, s2, s3⟩ := z_s13 hN r3
    have r1 : f_X5_fail N (x + 1) 1 h = _ := r1
    rw [if_pos (sF_of q), if_neg q, ck_p z.1.1.1, r1, cl_s]
    exact ⟨h', s1, r2.trans s2, s3⟩
theorem z_n36 (hN : 2000 ≤ N) (z : CZ X x h s) : ∃ h', f_X5_expectNumber_36 N (x + 1) h = some (hI h (x + 1) 5, h') ∧ Kx x (fun z => z ≠ x + 1) h h' ∧ CZ X x h' (stp X s) := by
  obtain ⟨h', r1, r2, r3⟩ := z_step hN z
  unfold f_X5_expectNumber_36
  rw [ck_p z.1.1.1, bd_e, r1, cl_s]
  exact ⟨h', rfl, r2, r3⟩
theorem z_expectNumber (hN : 2000 ≤ N) {a b : Nat} {l1 l2 : Int32} (ha : a < 2 ^ 31) (hb : b < 2 ^ 31) (e1 : s.1 = 0 → l1 = nI a) (e2 : l2 = nI b) (z : CZ X x h s) : ∃ r h', f_X5_expectNumber N (x + 1) l1 l2 h = some (r, h') ∧ Kx x (fun z => z ≠ x + 1) h h' ∧ CZ X x h' (xNu X a b s) ∧ ((xNu X a b s).1 = 0 → r = nI (xnv X s.2)) := by
  by_cases c : sNu X s = true
  · obtain ⟨c0, c2⟩ := sNu_i.mp c
    have v5 := (z.2.2.2.2 c0).2.2.2.2 c2
    have lt := xnv_lt c2
    unfold f_X5_expectNumber
    rw [ck_p z.1.1.1, z_isAtNumber z, cl_s, if_neg (by rw [c]; decide), ck_p z.1.1.1, v5, e1 c0, e2, ite_i (nI_ltI (by omega) (by omega)), ite_i (nI_leI (by omega) (by omega))]
    have bad : ¬ (a ≤ xnv X s.2 ∧ xnv X s.2 ≤ b) → ∃ r h', f_X5_expectNumber_31 N (x + 1) h = some (r, h') ∧ Kx x (fun z => z ≠ x + 1) h h' ∧ CZ X x h' (xNu X a b s) ∧ ((xNu X a b s).1 = 0 → r = nI (xnv X s.2)) := fun q => by
      obtain ⟨g, r1, r2, r3⟩ := z_fail (N := N) (k := 4) ⟨by decide, by decide⟩ z
      obtain ⟨h', s1, s2, s3⟩ := z_n36 hN r3
      have r1 : f_X5_fail N (x + 1) 4 h = _ := r1
      unfold f_X5_expectNumber_31
      rw [ck_p z.1.1.1, r1, cl_s]
      refine ⟨_, h', s1, r2.trans s2, ?_, fun e => absurd (xNu_s e).2 q⟩
      unfold xNu
      rw [if_pos c, if_neg q]
      exact s3
    by_cases q1 : xnv X s.2 < a
    · rw [if_pos q1]
      exact bad (by omega)
    · rw [if_neg q1]
      by_cases q2 : xnv X s.2 ≤ b
      · obtain ⟨h', s1, s2, s3⟩ := z_n36 hN z
        rw [if_pos q2]
        refine ⟨_, h', s1, s2, ?_, fun _ => v5⟩
        unfold xNu
        rw [if_pos c, if_pos ⟨by omega, q2⟩]
        exact s3
      · rw [if_neg q2]
        exact bad (by omega)
  · obtain ⟨g, r1, r2, r3⟩ := z_fail (N := N) (k := 1) ⟨by decide, by decide⟩ z
    obtain ⟨h', s1, s2, s3⟩ := z_n36 hN r3
    have r1 : f_X5_fail N (x + 1) 1 h = _ := r1
    unfold f_X5_expectNumber
    rw [ck_p z.1.1.1, z_isAtNumber z, cl_s, if_pos (by rw [sF_of c]; rfl), ck_p z.1.1.1, r1, cl_s]
    refine ⟨_, h', s1, r2.trans s2, ?_, fun e => absurd (xNu_s e).1 c⟩
    unfold xNu
    rw [if_neg c]
    exact s3
end COP
/-! The reference's side. -/
/-- what a question of the reference keeps -/
def Rk (y : Nat) (h h' : PH) : Prop := Rx y h h' ∧ (∀ k, k = 1 ∨ k = 23 ∨ k = 24 ∨ k = 54 → hI h' y k = hI h y k) ∧ hJ h' y 38 = hJ h y 38
/-- it answers as s' says: sound, it reads on there; else its fault is laid -/
def MRs (X : TX) (y : Nat) (h' : PH) (s' : ZS) : Prop := (s'.1 = 0 → RZ X y h' s'.2) ∧ (s'.1 ≠ 0 → hI h' y 9 = nI s'.1)
section MOP
variable {N y p : Nat} {X : TX} {h : PH}
theorem Rk.rf : Rk y h h := ⟨Rx.rf, fun _ _ => rfl, rfl⟩
theorem Rk.trans {h1 h2 : PH} (a : Rk y h h1) (b : Rk y h1 h2) : Rk y h h2 := ⟨a.1.trans b.1, fun k hk => (b.2.1 k hk).trans (a.2.1 k hk), b.2.2.trans a.2.2⟩
theorem Rk.xy {h1 : PH} (a : Rx y h h1) (b : Ry y h h1) : Rk y h h1 := ⟨a, fun k hk => b.1 k (by omega) (by omega) (by omega) (by omega), b.2 38 (by decide)⟩
theorem Rk.I {k : Nat} {v : Int32} (hk : k = 9 ∨ k = 37) : Rk y h (sI h y k v) := ⟨Rx.I, fun j hj => by rw [hI_sI_eq, va_ne (by omega)], rfl⟩
theorem RZ.I {k : Nat} {v : Int32} (hk : k = 9 ∨ k = 37) (z : RZ X y h p) : RZ X y (sI h y k v) p := by
  obtain ⟨rb, p1, p2, p3, p4, p5, p6⟩ := z
  have f : hI (sI h y k v) y = va_up (hI h y) k v := hI_sI_eq
  exact ⟨rb.rx Rx.I (by rw [f, va_ne (by omega)]), p1, by rw [f, va_ne (by omega)]; exact p2, by rw [f, va_ne (by omega)]; exact p3, by rw [f, va_ne (by omega)]; exact p4, p5, fun e => by rw [f, va_ne (by omega)]; exact p6 e⟩
theorem m_next (hN : 2000 ≤ N) (z : RZ X y h p) : ∃ h', f_X11_nextToken N y h = some ((), h') ∧ Rk y h h' ∧ hI h' y 37 = hI h y 37 ∧ RZ X y h' (xnx X p) := by
  obtain ⟨h', r1, r2, r3, r4⟩ := m_nextToken hN (xnx_le z.2.1) z.1 z.2.2.1
  exact ⟨h', r1, Rk.xy r2 r3, r3.1 37 (by decide) (by decide) (by decide) (by decide), r4⟩
theorem m_isWord {i : Nat} {l : Int64} (hi : i < 27) (hl : l = lN (k27 i)) (z : RZ X y h p) : f_X11_isWord N y l h = some (yb (sWd X (0, p) i), h) := by
  obtain ⟨rb, p1, p2, p3, p4, p5, p6⟩ := z
  have tl := xty_le (X := X) (p := p)
  unfold f_X11_isWord
  rw [ck_p rb.1.1, p4, ite_i (show nI (xty X p) = (1 : Int32) ↔ xty X p = 1 from nI_eq (b := 1) (by omega) (by decide))]
  by_cases c : xty X p = 1
  · rw [if_pos c, p5 c, hl, ite_i ((lg_cmp_eq _ _).trans (kid_u (xwv_W c) hi))]
    by_cases q : kid (xwv X p) = i
    · rw [if_pos q, sWd_i.mpr ⟨rfl, c, q⟩]; rfl
    · rw [if_neg q, sF_of (fun e => q (sWd_i.mp e).2.2)]; rfl
  · rw [if_neg c, sF_of (fun e => c (sWd_i.mp e).2.1)]; rfl
theorem m_isSign {c : Nat} (hc : c < 2 ^ 31) (z : RZ X y h p) : f_X11_isSign N y (nI c) h = some (yb (sSg X (0, p) c), h) := by
  obtain ⟨rb, p1, p2, p3, p4, p5, p6⟩ := z
  have tl := xty_le (X := X) (p := p)
  have l1 := rb.2.1.1
  unfold f_X11_isSign
  rw [ck_p rb.1.1, p4, ite_i (show nI (xty X p) = (3 : Int32) ↔ xty X p = 3 from nI_eq (b := 3) (by omega) (by decide))]
  by_cases q : xty X p = 3
  · have g3 := xty_3 q
    have gg := isG_iff.mp g3.2.1
    have es : nI (X.2 (xbg X p)) = nI c ↔ xgn X p = c := nI_eq (show xgn X p < 2 ^ 31 by omega) hc
    rw [if_pos q, mR_tape rb.1, rq_s, ck_p (mK_tape rb.1), mN_tape rb.1, p3, ck_p (nI_ix (by omega) (by decide)), ix_nI (by omega), rb.2.2.2 _ g3.1, ite_i es]
    by_cases w : xgn X p = c
    · rw [if_pos w, sSg_i.mpr ⟨rfl, q, w⟩]; rfl
    · rw [if_neg w, sF_of (fun e => w (sSg_i.mp e).2.2)]; rfl
  · rw [if_neg q, sF_of (fun e => q (sSg_i.mp e).2.1)]; rfl
theorem m_fails {k : Nat} (z : RZ X y h p) : ∃ h', f_X11_fails N y (nI k) h = some (0, h') ∧ Rk y h h' ∧ hI h' y 9 = nI (k + 16 * xbg X p) := by
  obtain ⟨rb, p1, p2, p3, p4, p5, p6⟩ := z
  unfold f_X11_fails
  rw [ck_p rb.1.1, p3, show (16 : Int32) = nI 16 from rfl, pk_mul, nI_add, bd_e]
  exact ⟨_, rfl, Rk.I (Or.inl rfl), by rw [hI_sI_eq, va_eq]⟩
theorem MRs.f {k q : Nat} {h' : PH} (hk : 1 ≤ k) (e : hI h' y 9 = nI (k + 16 * xbg X p)) : MRs X y h' (k + 16 * xbg X p, q) := ⟨fun z => by
  have z : k + 16 * xbg X p = 0 := z
  omega, fun _ => e⟩
theorem MRs.z {h' : PH} {q : Nat} (e : RZ X y h' q) : MRs X y h' (0, q) := ⟨fun _ => e, fun z => absurd rfl z⟩
theorem d0F {k : Nat} (hk : 1 ≤ k) : yb (decide ((k + 16 * xbg X p, p).1 = 0)) = 0 := by
  rw [decide_eq_false (show ¬ k + 16 * xbg X p = 0 by omega)]
  rfl
theorem m_needsWord (hN : 2000 ≤ N) {i : Nat} {l : Int64} (hi : i < 27) (hl : l = lN (k27 i)) (z : RZ X y h p) : ∃ h', f_X11_needsWord N y l h = some (yb (decide ((xEx X i (0, p)).1 = 0)), h') ∧ Rk y h h' ∧ hI h' y 37 = hI h y 37 ∧ MRs X y h' (xEx X i (0, p)) := by
  unfold f_X11_needsWord
  rw [ck_p z.1.1.1, m_isWord hi hl z, cl_s, ite_i yb0]
  by_cases c : sWd X (0, p) i = true
  · obtain ⟨h', r1, r2, r3, r4⟩ := m_next hN z
    rw [if_neg (by rw [c]; decide), ck_p z.1.1.1, r1, cl_s, xEx_y c]
    exact ⟨h', rfl, r2, r3, MRs.z r4⟩
  · obtain ⟨h', r1, r2, r3⟩ := m_fails (N := N) (k := 1) z
    have r1 : f_X11_fails N y 1 h = _ := r1
    have e37 : hI h' y 37 = hI h y 37 := by
      unfold f_X11_fails at r1
      rw [ck_p z.1.1.1, bd_e] at r1
      have := Option.some.inj r1
      rw [← (Prod.mk.inj this).2, hI_sI_eq, va_ne (by decide)]
    rw [if_pos (sF_of c), ck_p z.1.1.1, r1, cl_s, ck_p (Or.inl rfl), xEx_n rfl c, d0F (Nat.le_refl 1)]
    exact ⟨h', rfl, r2, e37, MRs.f (Nat.le_refl 1) r3⟩
theorem m_closes (hN : 2000 ≤ N) (z : RZ X y h p) : ∃ h', f_X11_closes N y h = some (yb (decide ((xSn X 59 (0, p)).1 = 0)), h') ∧ Rk y h h' ∧ MRs X y h' (xSn X 59 (0, p)) := by
  have e := m_isSign (N := N) (c := 59) (by decide) z
  have e : f_X11_isSign N y 59 h = _ := e
  unfold f_X11_closes
  rw [ck_p z.1.1.1, e, cl_s, ite_i yb0]
  by_cases c : sSg X (0, p) 59 = true
  · obtain ⟨h', r1, r2, r3, r4⟩ := m_next hN z
    rw [if_neg (by rw [c]; decide), ck_p z.1.1.1, r1, cl_s, xSn_y c]
    exact ⟨h', rfl, r2, MRs.z r4⟩
  · obtain ⟨h', r1, r2, r3⟩ := m_fails (N := N) (k := 1) z
    have r1 : f_X11_fails N y 1 h = _ := r1
    rw [if_pos (sF_of c), ck_p z.1.1.1, r1, cl_s, ck_p (Or.inl rfl), xSn_n rfl c, d0F (Nat.le_refl 1)]
    exact ⟨h', rfl, r2, MRs.f (Nat.le_refl 1) r3⟩
theorem m_needsNumber (hN : 2000 ≤ N) {a b : Nat} {l1 l2 : Int32} (ha : a < 2 ^ 31) (hb : b < 2 ^ 31) (e1 : l1 = nI a) (e2 : l2 = nI b) (z : RZ X y h p) : ∃ h', f_X11_needsNumber N y l1 l2 h = some (yb (decide ((xNu X a b (0, p)).1 = 0)), h') ∧ Rk y h h' ∧ MRs X y h' (xNu X a b (0, p)) ∧ ((xNu X a b (0, p)).1 = 0 → hI h' y 37 = nI (xnv X p)) := by
  have tl := xty_le (X := X) (p := p)
  unfold f_X11_needsNumber
  rw [ck_p z.1.1.1, z.2.2.2.2.1, ite_i (show nI (xty X p) = (2 : Int32) ↔ xty X p = 2 from nI_eq (b := 2) (by omega) (by decide))]
  by_cases c : xty X p = 2
  · have nu : sNu X (0, p) = true := sNu_i.mpr ⟨rfl, c⟩
    have lt := xnv_lt c
    have ew : (¬ nI (xnv X p) < nI a ∧ ¬ nI b < nI (xnv X p)) ↔ (a ≤ xnv X p ∧ xnv X p ≤ b) := by
      rw [nI_ltI (by omega) (by omega), nI_ltI (by omega) (by omega)]
      omega
    rw [if_pos c, z.2.2.2.2.2.2 c, e1, e2, m_within, cl_s, ite_i yes0]
    by_cases q : a ≤ xnv X p ∧ xnv X p ≤ b
    · have z1 : RZ X y (sI h y 37 (nI (xnv X p))) p := z.I (Or.inr rfl)
      obtain ⟨h', r1, r2, r3, r4⟩ := m_next hN z1
      rw [if_neg (fun w => w (ew.mpr q)), ck_p z.1.1.1, z.2.2.2.2.2.2 c, bd_e, ck_p z1.1.1.1, r1, cl_s, xNu_y nu q]
      exact ⟨h', rfl, (Rk.I (Or.inr rfl)).trans r2, MRs.z r4, fun _ => by rw [r3, hI_sI_eq, va_eq]⟩
    · obtain ⟨h', r1, r2, r3⟩ := m_fails (N := N) (k := 4) z
      have r1 : f_X11_fails N y 4 h = _ := r1
      rw [if_pos (fun w => q (ew.mp w)), ck_p z.1.1.1, r1, cl_s, ck_p (Or.inl rfl), xNu_r nu q, d0F (by decide)]
      exact ⟨h', rfl, r2, MRs.f (by decide) r3, fun w => by
        have w : 4 + 16 * xbg X p = 0 := w
        omega⟩
  · have nu : ¬ sNu X (0, p) = true := fun w => c (sNu_i.mp w).2
    obtain ⟨h', r1, r2, r3⟩ := m_fails (N := N) (k := 1) z
    have r1 : f_X11_fails N y 1 h = _ := r1
    rw [if_neg c, r1, cl_s, ck_p (Or.inl rfl), xNu_n rfl nu, d0F (Nat.le_refl 1)]
    exact ⟨h', rfl, r2, MRs.f (Nat.le_refl 1) r3, fun w => by
      have w : 1 + 16 * xbg X p = 0 := w
      omega⟩
theorem ZS.e {s : ZS} (h : s.1 = 0) : s = (0, s.2) := Prod.ext h rfl
theorem m_needsBoth (hN : 2000 ≤ N) {i a b : Nat} {l : Int64} {l1 l2 : Int32} (hi : i < 27) (hl : l = lN (k27 i)) (ha : a < 2 ^ 31) (hb : b < 2 ^ 31) (e1 : l1 = nI a) (e2 : l2 = nI b) (z : RZ X y h p) : ∃ h', f_X11_needsBoth N y l l1 l2 h = some (yb (decide ((xNu X a b (xEx X i (0, p))).1 = 0)), h') ∧ Rk y h h' ∧ MRs X y h' (xNu X a b (xEx X i (0, p))) ∧ ((xNu X a b (xEx X i (0, p))).1 = 0 → hI h' y 37 = nI (xnv X (xEx X i (0, p)).2)) := by
  obtain ⟨g, r1, r2, r3, r4⟩ := m_needsWord hN hi hl z
  unfold f_X11_needsBoth
  rw [ck_p z.1.1.1, r1, cl_s, ite_i yb0]
  by_cases c : (xEx X i (0, p)).1 = 0
  · have zg := r4.1 c
    obtain ⟨h', s1, s2, s3, s4⟩ := m_needsNumber hN ha hb e1 e2 zg
    rw [← ZS.e c] at s1 s3 s4
    rw [if_neg (by rw [decide_eq_true c]; decide), ck_p zg.1.1.1, s1, cl_s, ite_i yb0]
    by_cases d : (xNu X a b (xEx X i (0, p))).1 = 0
    · rw [if_neg (by rw [decide_eq_true d]; decide)]
      refine ⟨h', ?_, r2.trans s2, s3, s4⟩
      rw [decide_eq_true d]; rfl
    · rw [if_pos (decide_eq_false d)]
      refine ⟨h', ?_, r2.trans s2, s3, s4⟩
      rw [decide_eq_false d]; rfl
  · rw [if_pos (decide_eq_false c), xNu_z c]
    refine ⟨g, ?_, r2, r4, fun w => absurd w c⟩
    rw [decide_eq_false c]; rfl
end MOP
