/-! Names: a new one, one that is told; the reader. -/
def Rdr (h : PH) (a x w : Nat) : Prop := hK h a = 7 ∧ hR h a 0 = some (x + 1) ∧ hR h a 1 = some w ∧ a < hz h ∧ x + 43 < a
def xMor (X : TX) (c m : Nat) (s : ZS) : ZS := stp X (if c < m then s else flt X 5 s)
/-- the same, but for the name that is kept aside -/
def Rj (y : Nat) (h h' : PH) : Prop := Rx y h h' ∧ ∀ k, k = 1 ∨ k = 23 ∨ k = 24 ∨ k = 54 → hI h' y k = hI h y k
section NM2
variable {N x y w a r p : Nat} {X : TX} {cnt : Nat → Nat} {nm : Nat → Nat → Nat} {s : ZS} {h : PH}
theorem Rdr.shp {h' : PH} (g : Shp x h h') (q : Rdr h a x w) : Rdr h' a x w := by
  obtain ⟨q1, q2, q3, q4, q5⟩ := q
  have r : ∀ k, hR h' a k = hR h a k := fun k => g.2.2.2 a k q4 (by omega) (by omega) (by omega)
  exact ⟨(g.2.2.1 a q4).1.trans q1, (r 0).trans q2, (r 1).trans q3, Nat.lt_of_lt_of_le q4 g.2.1, q5⟩
theorem NmC.kx {h' : PH} {P : Nat → Prop} (g : Kx x P h h') (hP : ∀ z, w ≤ z → z < w + 18 → P z) (l : w + 18 ≤ hz h) (n : x + 43 ≤ w) (q : NmC h w cnt nm) : NmC h' w cnt nm := by
  refine ⟨q.1.shp g.1 l n, fun k hk => ?_⟩
  rw [(g.2 (w + 1) (hP _ (by omega) (by omega))).1, (g.2 (w + 2) (hP _ (by omega) (by omega))).2]
  exact q.2 k hk
theorem z_46 (hN : 2000 ≤ N) (z : CZ X x h s) (rd : Rdr h a x w) : ∃ h', f_X7_newName_46 N a h = some (hJ h (x + 1) 6, h') ∧ Kx x (fun z => z ≠ x + 1) h h' ∧ CZ X x h' (stp X s) := by
  obtain ⟨h', r1, r2, r3⟩ := z_step hN z
  unfold f_X7_newName_46
  rw [ck_p rd.1, rd.2.1, rq_s, ck_p z.1.1.1, bd_e, rq_s, ck_p z.1.1.1, r1, cl_s]
  exact ⟨h', rfl, r2, r3⟩
theorem xNew_n (e : sNm X s = true → nkn cnt nm (xwv X s.2) = true) : (xNew X cnt nm s).1 ≠ 0 := fun z => by
  have z := stp_n.mp z
  by_cases c : sNm X s = true
  · rw [if_pos c, if_pos (e c)] at z
    exact flt_n (by decide) z
  · rw [if_neg c] at z
    exact flt_n (by decide) z
theorem xNew_s (e : (xNew X cnt nm s).1 = 0) : sNm X s = true ∧ nkn cnt nm (xwv X s.2) = false := by
  by_cases c : sNm X s = true
  · by_cases d : nkn cnt nm (xwv X s.2) = true
    · exact absurd e (xNew_n (fun _ => d))
    · exact ⟨c, sF_of d⟩
  · exact absurd e (xNew_n (fun z => absurd z c))
theorem z_newName (hN : 2000 ≤ N) (z : CZ X x h s) (rd : Rdr h a x w) (q : NmC h w cnt nm) : ∃ r h', f_X7_newName N a h = some (r, h') ∧ Kx x (fun z => z ≠ x + 1) h h' ∧ CZ X x h' (xNew X cnt nm s) ∧ ((xNew X cnt nm s).1 = 0 → r = lN (xwv X s.2)) := by
  unfold f_X7_newName
  rw [ck_p rd.1, rd.2.1, rq_s, ck_p z.1.1.1, z_isAtName z, cl_s, ite_i yb0]
  by_cases c : sNm X s = true
  · obtain ⟨c0, c1, c2⟩ := sNm_i.mp c
    have j6 := ((z.2.2.2.2 c0).2.2.2.1 c1).1
    rw [if_neg (by rw [c]; decide), ck_p rd.1, rd.2.2.1, rq_s, rd.2.1, rq_s, ck_p z.1.1.1, ck_p q.1.1, j6, z_knows (by omega) (xwv_W c1) q, cl_s, ite_i yb0]
    by_cases d : nkn cnt nm (xwv X s.2) = true
    · obtain ⟨g, r1, r2, r3⟩ := z_fail (N := N) (k := 3) ⟨by decide, by decide⟩ z
      obtain ⟨h', s1, s2, s3⟩ := z_46 hN r3 (rd.shp r2.1)
      have r1 : f_X5_fail N (x + 1) 3 h = _ := r1
      rw [if_neg (by rw [d]; decide), ck_p rd.1, rd.2.1, rq_s, ck_p z.1.1.1, r1, cl_s]
      refine ⟨_, h', s1, r2.trans s2, ?_, fun e => absurd e (xNew_n (fun _ => d))⟩
      unfold xNew
      rw [if_pos c, if_pos d]
      exact s3
    · obtain ⟨h', s1, s2, s3⟩ := z_46 hN z rd
      rw [if_pos (sF_of d)]
      refine ⟨_, h', s1, s2, ?_, fun _ => j6⟩
      unfold xNew
      rw [if_pos c, if_neg d]
      exact s3
  · obtain ⟨g, r1, r2, r3⟩ := z_fail (N := N) (k := 1) ⟨by decide, by decide⟩ z
    obtain ⟨h', s1, s2, s3⟩ := z_46 hN r3 (rd.shp r2.1)
    have r1 : f_X5_fail N (x + 1) 1 h = _ := r1
    rw [if_pos (sF_of c), ck_p rd.1, rd.2.1, rq_s, ck_p z.1.1.1, r1, cl_s]
    refine ⟨_, h', s1, r2.trans s2, ?_, fun e => absurd e (xNew_n (fun z => absurd z c))⟩
    unfold xNew
    rw [if_neg c]
    exact s3
theorem xTld_z {k : Nat} (e : s.1 ≠ 0) : xTld X cnt nm k s = s := by
  unfold xTld
  rw [if_neg (fun z => e (sNm_i.mp z).1), flt_z e]
theorem xTld_s {k : Nat} (e : (xTld X cnt nm k s).1 = 0) : sNm X s = true ∧ nfi cnt nm k (xwv X s.2) < cnt k ∧ xTld X cnt nm k s = s := by
  unfold xTld at e ⊢
  by_cases c : sNm X s = true
  · rw [if_pos c] at e ⊢
    by_cases d : nfi cnt nm k (xwv X s.2) < cnt k
    · rw [if_pos d]
      exact ⟨c, d, rfl⟩
    · rw [if_neg d] at e
      exact absurd e (flt_n (by decide))
  · rw [if_neg c] at e
    exact absurd e (flt_n (by decide))
theorem z_toldHere (hN : 2000 ≤ N) {k : Nat} (hk : k < 5) (z : CZ X x h s) (q : NmC h w cnt nm) : ∃ h', f_X5_toldHere N (x + 1) w (nI k) h = some (if (xTld X cnt nm k s).1 = 0 then nI (nfi cnt nm k (xwv X s.2)) else -1, h') ∧ Kx x (fun z => z ≠ x + 1) h h' ∧ CZ X x h' (xTld X cnt nm k s) := by
  have l := (q.2 k hk).1
  have m6 := mk5_le k
  unfold f_X5_toldHere
  rw [ck_p z.1.1.1, z_isAtName z, cl_s, ite_i yb0]
  by_cases c : sNm X s = true
  · obtain ⟨c0, c1, c2⟩ := sNm_i.mp c
    have j6 := ((z.2.2.2.2 c0).2.2.2.1 c1).1
    rw [if_neg (by rw [c]; decide), ck_p z.1.1.1, ck_p q.1.1, j6, z_find (by omega) hk (xwv_W c1) q, cl_s]
    unfold nfR
    by_cases d : nfi cnt nm k (xwv X s.2) < cnt k
    · have e : xTld X cnt nm k s = s := by
        unfold xTld
        rw [if_pos c, if_pos d]
      rw [if_pos d, if_neg (ni1 (by omega)), e, if_pos c0]
      exact ⟨h, rfl, Kx.rf, z⟩
    · obtain ⟨g, r1, r2, r3⟩ := z_fail (N := N) (k := 2) ⟨by decide, by decide⟩ z
      have r1 : f_X5_fail N (x + 1) 2 h = _ := r1
      have e : xTld X cnt nm k s = flt X 2 s := by
        unfold xTld
        rw [if_pos c, if_neg d]
      rw [if_neg d, if_pos rfl, ck_p z.1.1.1, r1, cl_s, e, if_neg (flt_n (by decide))]
      exact ⟨g, rfl, r2, r3⟩
  · obtain ⟨g, r1, r2, r3⟩ := z_fail (N := N) (k := 1) ⟨by decide, by decide⟩ z
    have r1 : f_X5_fail N (x + 1) 1 h = _ := r1
    have e : xTld X cnt nm k s = flt X 1 s := by
      unfold xTld
      rw [if_neg c]
    rw [if_pos (sF_of c), ck_p z.1.1.1, r1, cl_s, e, if_neg (flt_n (by decide))]
    exact ⟨g, rfl, r2, r3⟩
theorem z_oneMore (hN : 2000 ≤ N) {k m : Nat} (hk : k < 5) (hm : m ≤ 10) (z : CZ X x h s) (rd : Rdr h a x w) (q : NmC h w cnt nm) : ∃ h', f_X7_oneMore N a (nI k) (nI m) h = some (nI (cnt k), h') ∧ Kx x (fun z => z ≠ x + 1) h h' ∧ CZ X x h' (xMor X (cnt k) m s) := by
  have l := (q.2 k hk).1
  have m6 := mk5_le k
  unfold f_X7_oneMore f_X7_oneMore_23 xMor
  rw [ck_p rd.1, rd.2.2.1, rq_s, ck_p q.1.1, vR_many q.1, rq_s, ck_p (vK_many q.1), vN_many q.1, ck_p (nI_ix hk (by decide)), ix_nI (by omega), (q.2 k hk).2.1, bd_e, ite_i (nI_ltI (by omega) (by omega))]
  by_cases c : cnt k < m
  · obtain ⟨h', s1, s2, s3⟩ := z_step hN z
    rw [if_pos c, if_pos c, ck_p rd.1, rd.2.1, rq_s, ck_p z.1.1.1, s1, cl_s]
    exact ⟨h', rfl, s2, s3⟩
  · obtain ⟨g, r1, r2, r3⟩ := z_fail (N := N) (k := 5) ⟨by decide, by decide⟩ z
    have r1 : f_X5_fail N (x + 1) 5 h = _ := r1
    have rd2 := rd.shp r2.1
    obtain ⟨h', s1, s2, s3⟩ := z_step hN r3
    rw [if_neg c, if_neg c, rd.2.1, rq_s, ck_p z.1.1.1, r1, cl_s, ck_p rd2.1, rd2.2.1, rq_s, ck_p r3.1.1.1, s1, cl_s]
    exact ⟨h', rfl, r2.trans s2, s3⟩
/-! the reference's -/
theorem NmM.rx {h' : PH} (g : Rx y h h') (q : NmM h y r cnt nm) : NmM h' y r cnt nm := by
  refine ⟨q.1.sm g.1, fun k hk => ?_⟩
  rw [(g.2.2 (y + 2) (by omega)).1, (g.2.2 (y + 3) (by omega)).2]
  exact q.2 k hk
theorem m_nn15 (hN : 2000 ≤ N) (z : RZ X y h p) (c1 : xty X p = 1) (c2 : 22 ≤ kid (xwv X p)) (q : NmM h y 1 cnt nm) : ∀ (n k d : Nat), d < n → k + d = 5 → nkn cnt nm (xwv X p) = nkf cnt nm (xwv X p) d k → ∃ h', f_X11_needsNew_15 N n y (nI k) h = some (yb (decide ((xNew X cnt nm (0, p)).1 = 0)), h') ∧ Rj y h h' ∧ MRs X y h' (xNew X cnt nm (0, p)) ∧ ((xNew X cnt nm (0, p)).1 = 0 → hJ h' y 38 = lN (u27 (xwv X p)))
  | 0, k, d, h1, h2, _ => by omega
  | n + 1, k, d, h1, h2, he => by
    have nm1 : sNm X (0, p) = true := sNm_i.mpr ⟨rfl, c1, c2⟩
    have e7 := z.2.2.2.2.2.1 c1
    show ∃ h', f_X11_needsNew_15_b N (f_X11_needsNew_15 N n) y (nI k) h = _ ∧ _
    unfold f_X11_needsNew_15_b
    rw [ite_i (show (4 : Int32) < nI k ↔ 4 < k from nI_ltI (a := 4) (by decide) (by omega))]
    match d, h1, h2, he with
    | 0, h1, h2, he =>
      have en : nkn cnt nm (xwv X p) = false := he
      have es : xNew X cnt nm (0, p) = (0, xnx X p) := by
        unfold xNew
        rw [if_pos nm1, if_neg (by show ¬ nkn cnt nm (xwv X p) = true; rw [en]; decide)]
        rfl
      have z1 : RZ X y (sJ h y 38 (lN (u27 (xwv X p)))) p := by
        obtain ⟨rb, a1, a2, a3, a4, a5, a6⟩ := z
        refine ⟨rb.rx Rx.J rfl, a1, a2, a3, a4, fun e => ?_, a6⟩
        rw [hJ_sJ, up2_k _ _ _ (by decide)]
        exact a5 e
      obtain ⟨h', r1, r2, r3, r4⟩ := m_nextToken hN (xnx_le z.2.1) z1.1 z1.2.2.1
      rw [if_pos (by omega), ck_p z.1.1.1, e7, bd_e, ck_p z1.1.1.1, r1, cl_s, es]
      refine ⟨h', rfl, ⟨Rx.J.trans r2, fun k hk => (r3.1 k (by omega) (by omega) (by omega) (by omega))⟩, MRs.z r4, fun _ => ?_⟩
      rw [r3.2 38 (by decide)]
      exact up2_self _ _ _ _
    | d + 1, h1, h2, he =>
      have l := nfi_le (cnt := cnt) (nm := nm) (k := k) (c := xwv X p)
      have lc := (q.2 k (by omega)).1
      have m6 := mk5_le k
      have nd := m_named (N := N) (by omega) (by decide) (show k < 5 by omega) (xwv_W c1) e7 q
      have nd : f_X11_named N y 1 (nI k) h = _ := nd
      rw [if_neg (by omega), ck_p z.1.1.1, nd, cl_s]
      unfold nfR
      unfold nkf at he
      by_cases e : nfi cnt nm k (xwv X p) < cnt k
      · rw [if_pos e] at he
        obtain ⟨h', r1, r2, r3⟩ := m_fails (N := N) (k := 3) z
        have r1 : f_X11_fails N y 3 h = _ := r1
        have es : xNew X cnt nm (0, p) = (3 + 16 * xbg X p, p) := by
          unfold xNew
          rw [if_pos nm1, if_pos (show nkn cnt nm (xwv X p) = true from he), stp_z (flt_n (by decide)), flt_0 rfl]
        rw [if_pos e, if_neg (nI_pos (by omega)), ck_p z.1.1.1, r1, cl_s, ck_p (Or.inl rfl), es, d0F (by decide)]
        exact ⟨h', rfl, ⟨r2.1, r2.2.1⟩, MRs.f (by decide) r3, fun w => by
          have w : 3 + 16 * xbg X p = 0 := w
          omega⟩
      · rw [if_neg e] at he
        rw [if_neg e, if_pos (by decide), bd_e, nI_1]
        exact m_nn15 hN z c1 c2 q n (k + 1) d (by omega) (by omega) he
theorem m_needsNew (hN : 2000 ≤ N) (z : RZ X y h p) (q : NmM h y 1 cnt nm) : ∃ h', f_X11_needsNew N y h = some (yb (decide ((xNew X cnt nm (0, p)).1 = 0)), h') ∧ Rj y h h' ∧ MRs X y h' (xNew X cnt nm (0, p)) ∧ ((xNew X cnt nm (0, p)).1 = 0 → hJ h' y 38 = lN (u27 (xwv X p))) := by
  unfold f_X11_needsNew
  rw [ck_p z.1.1.1, m_isKept z, cl_s, ite_i yb0]
  by_cases c : sNm X (0, p) = true
  · obtain ⟨c0, c1, c2⟩ := sNm_i.mp c
    rw [if_pos (by rw [c]; rfl)]
    exact m_nn15 hN z c1 c2 q N 0 5 (by omega) rfl rfl
  · obtain ⟨h', r1, r2, r3⟩ := m_fails (N := N) (k := 1) z
    have r1 : f_X11_fails N y 1 h = _ := r1
    have es : xNew X cnt nm (0, p) = (1 + 16 * xbg X p, p) := by
      unfold xNew
      rw [if_neg c, stp_z (flt_n (by decide)), flt_0 rfl]
    rw [if_neg (by rw [sF_of c]; decide), ck_p z.1.1.1, r1, cl_s, ck_p (Or.inl rfl), es, d0F (by decide)]
    exact ⟨h', rfl, ⟨r2.1, r2.2.1⟩, MRs.f (by decide) r3, fun w => by
      have w : 1 + 16 * xbg X p = 0 := w
      omega⟩
theorem m_needsNamed (hN : 2000 ≤ N) {k : Nat} (hr : r < 2) (hk : k < 5) (z : RZ X y h p) (q : NmM h y r cnt nm) : ∃ h', f_X11_needsNamed N y (nI r) (nI k) h = some (yb (decide ((xTld X cnt nm k (0, p)).1 = 0)), h') ∧ Rk y h h' ∧ MRs X y h' (xTld X cnt nm k (0, p)) ∧ ((xTld X cnt nm k (0, p)).1 = 0 → hI h' y 37 = nI (nfi cnt nm k (xwv X p))) := by
  have l := (q.2 k hk).1
  have m6 := mk5_le k
  unfold f_X11_needsNamed
  rw [ck_p z.1.1.1, m_isKept z, cl_s, ite_i yb0]
  by_cases c : sNm X (0, p) = true
  · obtain ⟨c0, c1, c2⟩ := sNm_i.mp c
    have e7 := z.2.2.2.2.2.1 c1
    have z1 : ∀ v : Int32, RZ X y (sI h y 37 v) p := fun v => z.I (Or.inr rfl)
    have k1 : ∀ v : Int32, Rk y h (sI h y 37 v) := fun v => Rk.I (Or.inr rfl)
    have f37 : ∀ v : Int32, hI (sI h y 37 v) y 37 = v := fun v => by rw [hI_sI_eq, va_eq]
    rw [if_pos (by rw [c]; rfl), ck_p z.1.1.1, m_named (by omega) hr hk (xwv_W c1) e7 q, cl_s, ck_p z.1.1.1, bd_e, ck_p (z1 _).1.1.1, f37]
    unfold nfR
    by_cases d : nfi cnt nm k (xwv X p) < cnt k
    · have es : xTld X cnt nm k (0, p) = (0, p) := by
        unfold xTld
        rw [if_pos c, if_pos d]
      rw [if_pos d, if_pos (show (0 : Int32) ≤ nI (nfi cnt nm k (xwv X p)) from nI_le (a := 0) (Nat.zero_le _) (by omega)), es]
      exact ⟨_, rfl, k1 _, MRs.z (z1 _), fun _ => f37 _⟩
    · obtain ⟨h', r1, r2, r3⟩ := m_fails (N := N) (k := 2) (z1 (-1))
      have r1 : f_X11_fails N y 2 (sI h y 37 (-1)) = _ := r1
      have es : xTld X cnt nm k (0, p) = (2 + 16 * xbg X p, p) := by
        unfold xTld
        rw [if_pos c, if_neg d, flt_0 rfl]
      rw [if_neg d, if_neg (by decide), r1, cl_s, if_pos rfl, es, d0F (by decide)]
      exact ⟨h', rfl, (k1 _).trans r2, MRs.f (by decide) r3, fun w => by
        have w : 2 + 16 * xbg X p = 0 := w
        omega⟩
  · obtain ⟨h', r1, r2, r3⟩ := m_fails (N := N) (k := 1) z
    have r1 : f_X11_fails N y 1 h = _ := r1
    have es : xTld X cnt nm k (0, p) = (1 + 16 * xbg X p, p) := by
      unfold xTld
      rw [if_neg c, flt_0 rfl]
    rw [if_neg (by rw [sF_of c]; decide), ck_p z.1.1.1, r1, cl_s, ck_p (Or.inl rfl), es, d0F (by decide)]
    exact ⟨h', rfl, r2, MRs.f (by decide) r3, fun w => by
      have w : 1 + 16 * xbg X p = 0 := w
      omega⟩
end NM2
