/-! The duty of spell, the class's side: the fewest fuels of the second hour. -/
/-- what the houses light first is written -/
def RWq (V x : Nat) (u : Nat → Nat) (h : PH) : Prop := ∀ p, p < 4 → hI h (x + 31 + 2) p = cm (cP V u p)
section SPE1
variable {N x v J i f : Nat} {A : AV} {S : AS} {w : Int32} {u sh R : Nat → Nat}
theorem okP (lu : LU A S u) (hV : aHs A f < 16) {p : Nat} (hp : p < 4) : okc A S (aHs A f) p (cP (aHs A f) u p) := by
  unfold cP
  rcases hP_d _ hV p hp with ⟨a, -⟩ | ⟨a, -, -, -⟩
  · rw [if_pos a]; exact Or.inl rfl
  · rw [if_neg (by omega)]
    by_cases e : u (hP (aHs A f) p) = 5
    · exact Or.inl e
    · obtain ⟨k0, k1, k2, k3⟩ := (lu _ a).resolve_left e
      refine Or.inr ⟨a, ?_⟩
      unfold al
      rw [Bool.or_eq_true, Bool.and_eq_true, decide_eq_true_eq, decide_eq_true_eq, decide_eq_true_eq]
      exact Or.inr ⟨k1, k2, k3⟩
theorem atS_cong {s s' : Nat → Nat} : ∀ n, (∀ p, p < n → s p = s' p) → atS s n = atS s' n
  | 0, _ => rfl
  | n + 1, h => by
    show 11 * atS s n + s n = 11 * atS s' n + s' n
    rw [atS_cong n (fun p hp => h p (by omega)), h n (by omega)]
theorem atS_up {s : Nat → Nat} {t : Nat} : atS (va_up s i t) (i + 1) = 11 * atS s i + t := by
  show 11 * atS (va_up s i t) i + va_up s i t i = _
  rw [va_eq, atS_cong (s := va_up s i t) (s' := s) i (fun p hp => va_ne (by omega))]
theorem c_f96 (hv : x + 43 ≤ v) (hi : i < 3) {RR : Nat → Int32 → Int32 → Int32 → Int32 → PH → Option (Int32 × PH)} {m c b : Nat} {s : Nat → Nat} {h : PH} (hc : c = cP (aHs A f) u i) (ok : okc A S (aHs A f) i c) (sb : SB A S x v h) (pa : PA A S (aHs A f) x 4 sh h) (hs : ∀ p, p < i → (sh p).testBit (s p) = true)
    (hR : ∀ (s' : Nat → Nat) b' m', (∀ p, p < i + 1 → (sh p).testBit (s' p) = true) → b' < m' → m' ≤ 9 → ∃ r, RR (x + 31) (nI (i + 1)) (nI (atS s' (i + 1))) (nI b') (nI m') h = some (nI r, h) ∧ Lst (PW A S f w u m (i + 1) s') b' m' r) :
    ∀ (n g r0 : Nat), aC A 0 < n + g → g ≤ aC A 0 → b ≤ r0 → r0 ≤ 9 → ∃ r, f_X3_fewestThen_96 RR N n (x + 31) (nI i) (nI (atS s i)) (nI b) (nI (6 * i + ccO c)) (nI r0) (nI g) h = some (nI r, h) ∧ Lst (fun k => ∃ g', g ≤ g' ∧ (frP A S (aHs A f) i c).testBit g' = true ∧ ∃ k', k = k' + 1 ∧ PW A S f w u m (i + 1) (va_up s i (g' + 1)) k') b r0 r
  | 0, g, r0, h1, h2, _, _ => by omega
  | n + 1, g, r0, h1, h2, hb, h9 => by
    obtain ⟨sp, ⟨r9, r10⟩, pv, hS, hC⟩ := id sb
    have hW := pv.2.2.1
    have h5 := hW.1.1
    obtain ⟨pq, -, pl, -⟩ := pa i (by omega)
    obtain ⟨-, p8, -, pf⟩ := pq c ok
    have fl := frP_lt (A := A) (S := S) (V := aHs A f) (i := i) (c := c) hW
    have cl := ccO_lt (okc_lt hW ok).1
    show ∃ r, f_X3_fewestThen_96_b RR N (f_X3_fewestThen_96 RR N n) (x + 31) _ _ _ _ _ _ h = _ ∧ _
    unfold f_X3_fewestThen_96_b f_X3_fewestThen_156
    rw [ck_p sp.1, r9, rq_s, ck_p pv.1.1, vR_many pv.1, rq_s, ck_p (vK_many pv.1), vN_many pv.1, ck_p (by decide), pv.2.1.1 0 (by decide), ite_i (nI_leI (by omega) (by omega))]
    by_cases e : aC A 0 ≤ g
    · rw [if_pos e]
      refine ⟨r0, rfl, Lst.no (fun k => ?_)⟩
      rintro ⟨g', g1, g2, -⟩
      have := (frP_b.mp g2).2.2.1
      omega
    rw [if_neg e, nI_1, ite_i (nI_leI (by omega) (by omega))]
    by_cases d : r0 ≤ b + 1
    · rw [if_pos d]
      refine ⟨r0, rfl, Lst.no (fun k => ?_)⟩
      rintro ⟨g', -, -, k', rfl, -⟩
      omega
    have a24 : inb (nI (6 * i + ccO c)) 24 := nI_ix (by omega) (by decide)
    have x24 : ix (nI (6 * i + ccO c)) = 6 * i + ccO c := ix_nI (by omega)
    rw [if_neg d, pR_fre sp, rq_s, ck_p (pK_fre sp), pN_fre sp, ck_p a24, x24, p8, ite_i (bitI (Nat.lt_trans fl (by decide)) (show g < 32 by omega))]
    by_cases t : (frP A S (aHs A f) i c).testBit g = false
    · rw [if_pos t, bd_e, nI_1]
      obtain ⟨r, t1, t2⟩ := c_f96 hv hi hc ok sb pa hs hR n (g + 1) r0 (by omega) (by omega) hb h9
      refine ⟨r, t1, t2.cg (fun k => ⟨fun ⟨g', g1, g2⟩ => ⟨g', by omega, g2⟩, fun ⟨g', g1, g2⟩ => ⟨g', ?_, g2⟩⟩)⟩
      by_cases y : g = g'
      · rw [← y, t] at g2
        exact absurd g2.1 (by decide)
      · omega
    have t' : (frP A S (aHs A f) i c).testBit g = true := by simpa using t
    obtain ⟨r1, a1, a2⟩ := hR (va_up s i (g + 1)) (b + 1) r0 (fun p hp => by
      by_cases y : p = i
      · rw [y, va_eq]; exact pf g t'
      · rw [va_ne y]; exact hs p (by omega)) (by omega) h9
    have ia : nI (atS s i) * (11 : Int32) + (1 : Int32) + nI g = nI (11 * atS s i + (g + 1)) := by
      rw [show (11 : Int32) = nI 11 from rfl, pk_mul, nI_1, nI_add, Nat.mul_comm (atS s i) 11, Nat.add_assoc, Nat.add_comm 1 g]
    rw [atS_up] at a1
    have b1 : b ≤ r1 := by
      rcases a2.1 with y | ⟨k, -, y⟩ <;> omega
    obtain ⟨r, t1, t2⟩ := c_f96 hv hi hc ok sb pa hs hR n (g + 1) r1 (by omega) (by omega) b1 (Nat.le_trans a2.2.1 h9)
    rw [if_neg t, ia, nI_1, nI_1, a1, cl_s, bd_e]
    refine ⟨r, t1, (a2.sc.or t2).cg (fun k => ⟨fun z => ?_, fun ⟨g', g1, g2, g3⟩ => ?_⟩)⟩
    · rcases z with z | ⟨g', g1, g2⟩
      · exact ⟨g, Nat.le_refl g, t', z⟩
      · exact ⟨g', by omega, g2⟩
    · by_cases y : g = g'
      · rw [← y] at g3
        exact Or.inl g3
      · exact Or.inr ⟨g', by omega, g2, g3⟩
theorem c_few (hB : 100 ≤ N) (hv : x + 43 ≤ v) (hT : WS A J S) (lu : LU A S u) {h : PH} (sb : SB A S x v h) (rw' : RWq (aHs A f) x u h) (pa : PA A S (aHs A f) x 4 sh h) (rc : RCq x R h) (ht : ∀ s, (∀ p, p < 4 → (sh p).testBit (s p) = true) → ((R (atS s 3)).testBit (s 3) = true ↔ Sg A S f w s)) : ∀ (m i d0 b most : Nat) (s : Nat → Nat), m + 1 + i = 4 → m < d0 → (∀ p, p < i → (sh p).testBit (s p) = true) → b < most → most ≤ 9 → ∃ r, f_X3_fewestThen d0 N (x + 31) (nI i) (nI (atS s i)) (nI b) (nI most) h = some (nI r, h) ∧ Lst (PW A S f w u (m + 1) i s) b most r
  | m, i, d0, b, most, s, hm, hd, hs, hb, h9 => by
    obtain ⟨d', rfl⟩ : ∃ d', d0 = d' + 1 := ⟨d0 - 1, by omega⟩
    obtain ⟨sp, ⟨r9, r10⟩, pv, hS, hC⟩ := id sb
    have hW := pv.2.2.1
    have h5 := hW.1.1
    have hV := aHs_lt hW f
    have hi : i < 4 := by omega
    have xi : ix (nI i) = i := ix_nI (by omega)
    have ok := okP (f := f) lu hV hi
    have rwi := rw' i hi
    obtain ⟨c, hc⟩ : ∃ c, c = cP (aHs A f) u i := ⟨_, rfl⟩
    rw [← hc] at ok rwi
    obtain ⟨pq, -, pl, -⟩ := pa i hi
    obtain ⟨p7, p8, pi, pf⟩ := pq c ok
    have cl := ccO_lt (okc_lt hW ok).1
    have fl := frP_lt (A := A) (S := S) (V := aHs A f) (i := i) (c := c) hW
    have il := idP_lt hW hT hV hi ok
    have a24 : inb (nI (6 * i + ccO c)) 24 := nI_ix (by omega) (by decide)
    have x24 : ix (nI (6 * i + ccO c)) = 6 * i + ccO c := ix_nI (by omega)
    show ∃ r, f_X3_fewestThen_b (f_X3_fewestThen d' N) N (x + 31) _ _ _ _ h = _ ∧ _
    unfold f_X3_fewestThen_b
    rw [ck_p sp.1, pR_row sp, rq_s, ck_p (pK_row sp), pN_row sp, ck_p (nI_ix hi (by decide)), xi, rwi, ix6, bd_e, ite_i (show nI i < (3 : Int32) ↔ i < 3 from nI_ltI (b := 3) (by omega) (by decide))]
    by_cases i3 : i < 3
    · obtain ⟨m', rfl⟩ : ∃ m', m = m' + 1 := ⟨m - 1, by omega⟩
      have hR : ∀ (s' : Nat → Nat) b' m1, (∀ p, p < i + 1 → (sh p).testBit (s' p) = true) → b' < m1 → m1 ≤ 9 → ∃ r, f_X3_fewestThen d' N (x + 31) (nI (i + 1)) (nI (atS s' (i + 1))) (nI b') (nI m1) h = some (nI r, h) ∧ Lst (PW A S f w u (m' + 1) (i + 1) s') b' m1 r := fun s' b' m1 k1 k2 k3 => c_few hB hv hT lu sb rw' pa rc ht m' (i + 1) d' b' m1 s' (by omega) (by omega) k1 k2 k3
      obtain ⟨r1, a1, a2⟩ := hR (va_up s i (idP A S (aHs A f) i c)) b most (fun p hp => by
        by_cases y : p = i
        · rw [y, va_eq]; exact pi
        · rw [va_ne y]; exact hs p (by omega)) hb h9
      have b1 : b ≤ r1 := by
        rcases a2.1 with y | ⟨k, -, y⟩ <;> omega
      rw [atS_up] at a1
      have ia : nI (atS s i) * (11 : Int32) + nI (idP A S (aHs A f) i c) = nI (11 * atS s i + idP A S (aHs A f) i c) := ix11 _ _
      obtain ⟨r, t1, t2⟩ := c_f96 (N := N) (RR := f_X3_fewestThen d' N) hv i3 hc ok sb pa hs hR N 0 r1 (by
        omega) (by omega) b1 (Nat.le_trans a2.2.1 h9)
      rw [if_pos i3, pR_idle sp, rq_s, ck_p (pK_idle sp), pN_idle sp, ck_p a24, x24, p7, ia, nI_1, a1, cl_s]
      refine ⟨r, t1, (a2.or t2).cg (fun k => ?_)⟩
      show _ ↔ (PW A S f w u (m' + 1) (i + 1) (va_up s i (idP A S (aHs A f) i (cP (aHs A f) u i))) k ∨ _)
      rw [← hc]
      exact ⟨fun z => z.imp id (fun ⟨g', _, g2⟩ => ⟨g', g2⟩), fun z => z.imp id (fun ⟨g', g2⟩ => ⟨g', Nat.zero_le _, g2⟩)⟩
    · have ei : i = 3 := by omega
      have em : m = 0 := by omega
      subst ei em
      have lt : ∀ p, p < 3 → s p < 11 := fun p hp => by
        obtain ⟨-, -, l, -⟩ := pa p (by omega)
        exact tb_lt l (hs p hp)
      have s0 := lt 0 (by decide)
      have s1 := lt 1 (by decide)
      have s2 := lt 2 (by decide)
      have al : atS s 3 < 1331 := by
        show 11 * (11 * (11 * 0 + s 0) + s 1) + s 2 < 1331
        omega
      obtain ⟨rk, rl⟩ := rc _ al
      have i1331 : inb (nI (atS s 3)) 1331 := nI_ix al (by decide)
      have x1331 : ix (nI (atS s 3)) = atS s 3 := ix_nI (by omega)
      have rd : ∀ t, (sh 3).testBit t = true → ((R (atS s 3)).testBit t = true ↔ Sg A S f w (va_up s 3 t)) := fun t htt => by
        have q := ht (va_up s 3 t) (fun p hp => by
          by_cases y : p = 3
          · rw [y, va_eq]; exact htt
          · rw [va_ne y]; exact hs p (by omega))
        rw [va_eq, atS_cong (s := va_up s 3 t) (s' := s) 3 (fun p hp => va_ne (by omega))] at q
        exact q
      have rdi := rd _ pi
      have pw : ∀ k, PW A S f w u 1 3 s k ↔ ((Sg A S f w (va_up s 3 (idP A S (aHs A f) 3 c)) ∧ k = 0) ∨ ∃ g, (frP A S (aHs A f) 3 c).testBit g = true ∧ ∃ k', k = k' + 1 ∧ (Sg A S f w (va_up s 3 (g + 1)) ∧ k' = 0)) := fun k => by
        show ((Sg A S f w (va_up s 3 (idP A S (aHs A f) 3 (cP (aHs A f) u 3))) ∧ k = 0) ∨ ∃ g, (frP A S (aHs A f) 3 (cP (aHs A f) u 3)).testBit g = true ∧ ∃ k', k = k' + 1 ∧ (Sg A S f w (va_up s 3 (g + 1)) ∧ k' = 0)) ↔ _
        rw [← hc]
      rw [if_neg i3, pR_rdg sp, rq_s, ck_p (pK_rdg sp), pN_rdg sp, ck_p i1331, pR_idle sp, rq_s, ck_p (pK_idle sp), pN_idle sp, ck_p a24, x1331, x24, p7, rk, ite_i (bitI (Nat.lt_trans rl (by decide)) (show idP A S (aHs A f) 3 c < 32 by omega))]
      by_cases t : (R (atS s 3)).testBit (idP A S (aHs A f) 3 c) = false
      · have ns : ¬ Sg A S f w (va_up s 3 (idP A S (aHs A f) 3 c)) := fun z => by
          rw [rdi.mpr z] at t
          cases t
        rw [if_pos t, rq_s, ck_p (pK_rdg sp), pN_rdg sp, ck_p i1331, pR_fre sp, rq_s, ck_p (pK_fre sp), pN_fre sp, ck_p a24, rk, p8]
        have ba := bit_any (R := R (atS s 3)) (F := frP A S (aHs A f) 3 c) (Nat.lt_trans rl (by decide)) (Nat.lt_trans fl (by decide))
        by_cases y : ∀ g, ¬ ((frP A S (aHs A f) 3 c).testBit g = true ∧ (R (atS s 3)).testBit (g + 1) = true)
        · rw [if_pos (ba.mpr y)]
          refine ⟨most, rfl, Lst.no (fun k z => ?_)⟩
          rcases (pw k).mp z with z | ⟨g, g1, k', -, g2, -⟩
          · exact absurd z.1 ns
          · exact absurd ⟨g1, (rd (g + 1) (pf g g1)).mpr g2⟩ (y g)
        · rw [if_neg (fun z => y (ba.mp z)), nI_1]
          have y' : ∃ g, (frP A S (aHs A f) 3 c).testBit g = true ∧ (R (atS s 3)).testBit (g + 1) = true := Classical.byContradiction (fun z => y (fun g q => z ⟨g, q⟩))
          obtain ⟨g, g1, g2⟩ := y'
          refine ⟨b + 1, rfl, Or.inr ⟨1, (pw 1).mpr (Or.inr ⟨g, g1, 0, rfl, (rd (g + 1) (pf g g1)).mp g2, rfl⟩), rfl⟩, by omega, fun k z => ?_⟩
          rcases (pw k).mp z with z | ⟨g, g1, k', e, -, -⟩
          · exact absurd z.1 ns
          · omega
      · have t' : (R (atS s 3)).testBit (idP A S (aHs A f) 3 c) = true := by simpa using t
        rw [if_neg t]
        exact ⟨b, rfl, Or.inr ⟨0, (pw 0).mpr (Or.inl ⟨rdi.mp t', rfl⟩), rfl⟩, by omega, fun k _ => by omega⟩
end SPE1
