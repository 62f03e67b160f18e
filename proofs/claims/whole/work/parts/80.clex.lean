/-! The class's tape: one token. -/
/-- the tape's own cells, the text, the constants -/
def TB (X : TX) (x : Nat) (h : PH) : Prop := TP h (x + 1) ∧ x + 43 ≤ hz h ∧ (∀ i j, i < 27 → j < 27 → hW h i = hW h j → i = j) ∧ TXok X ∧ hI h (x + 1) 1 = nI X.1 ∧ ∀ k, k < X.1 → hI h (x + 2) k = nI (X.2 k)
/-- where a word of the language lies -/
def wrf (h : PH) (c : Nat) : Option Nat := if kid c < 27 then some (hW h (kid c)) else none
def xkc (X : TX) (p : Nat) : Int32 := if xty X p = 0 then 1 else if xty X p = 1 then 2 else if xty X p = 2 then 3 else if xty X p = 3 then nI (xgn X p) else 0
/-- the tape stands at the token behind p -/
def TK (X : TX) (x : Nat) (h : PH) (p : Nat) : Prop := hI h (x + 1) 2 = nI (xnx X p) ∧ hI h (x + 1) 3 = xkc X p ∧ hI h (x + 1) 4 = nI (xbg X p) ∧ (xty X p = 1 → hJ h (x + 1) 6 = lN (xwv X p) ∧ hR h (x + 1) 7 = wrf h (xwv X p)) ∧ (xty X p = 2 → hI h (x + 1) 5 = nI (xnv X p))
section CLX
variable {N x : Nat} {X : TX}
theorem TB.kx {h h' : PH} (g : Kx x (fun z => z ≠ x + 1) h h') (e : hI h' (x + 1) 1 = hI h (x + 1) 1) (p : TB X x h) : TB X x h' := by
  obtain ⟨p1, p2, p3, p4, p5, p6⟩ := p
  exact ⟨p1.shp g.1 p2, Nat.le_trans p2 g.1.2.1, by rw [g.1.1]; exact p3, p4, e.trans p5, fun k hk => by rw [(g.2 (x + 2) (by omega)).1]; exact p6 k hk⟩
theorem tkx {h : PH} {k : Nat} {v : Int32} : Kx x (fun z => z ≠ x + 1) h (sI h (x + 1) k v) := (Ex.sI (P := fun z => z = x + 1) rfl).kx (fun z hz => hz)
theorem tkJ {h : PH} {k : Nat} {v : Int64} : Kx x (fun z => z ≠ x + 1) h (sJ h (x + 1) k v) := ⟨Sm.sJ.shp rfl, fun z hz => ⟨rfl, by rw [hJ_sJ]; exact up2_a _ _ _ hz⟩⟩
theorem tkR {h : PH} {v : Option Nat} : Kx x (fun z => z ≠ x + 1) h (sR h (x + 1) 7 v) := ⟨Shp.sR (Or.inl ⟨rfl, by decide⟩), fun z hz => ⟨rfl, rfl⟩⟩
theorem z_isL {h : PH} {s : Nat} (hs : s < 2 ^ 31) : f_X5_isLetter N (nI s) h = some (yb (isL s), h) := by
  unfold f_X5_isLetter
  rw [ite_i (show nI s < (97 : Int32) ↔ s < 97 from nI_ltI (b := 97) hs (by decide)), ite_i (show (122 : Int32) < nI s ↔ 122 < s from nI_ltI (a := 122) (by decide) hs)]
  unfold isL
  by_cases c1 : s < 97
  · rw [if_pos c1, decide_eq_false (by omega)]; rfl
  · rw [if_neg c1]
    by_cases c2 : 122 < s
    · rw [if_pos c2, decide_eq_false (by omega)]; rfl
    · rw [if_neg c2, decide_eq_true (by omega)]; rfl
theorem z_isD {h : PH} {s : Nat} (hs : s < 2 ^ 31) : f_X5_isDigit N (nI s) h = some (yb (isD s), h) := by
  unfold f_X5_isDigit
  rw [ite_i (show nI s < (48 : Int32) ↔ s < 48 from nI_ltI (b := 48) hs (by decide)), ite_i (show (57 : Int32) < nI s ↔ 57 < s from nI_ltI (a := 57) (by decide) hs)]
  unfold isD
  by_cases c1 : s < 48
  · rw [if_pos c1, decide_eq_false (by omega)]; rfl
  · rw [if_neg c1]
    by_cases c2 : 57 < s
    · rw [if_pos c2, decide_eq_false (by omega)]; rfl
    · rw [if_neg c2, decide_eq_true (by omega)]; rfl
theorem wix_W {h : PH} (inj : ∀ i j, i < 27 → j < 27 → hW h i = hW h j → i = j) {i : Nat} (hi : i < 27) : wix h (hW h i) = some i := by
  cases e : wix h (hW h i) with
  | none =>
    unfold wix at e
    have := List.find?_eq_none.mp e i (List.mem_range.mpr hi)
    simp at this
  | some j =>
    obtain ⟨h1, h2⟩ := wix_at e
    rw [inj i j hi h1 h2]
theorem z_wc {h : PH} (inj : ∀ i j, i < 27 → j < 27 → hW h i = hW h j → i = j) {c : Nat} (hc : Wrd c) : ∀ (n i : Nat), 27 < n + i → i ≤ kid c → f_X9_withCode_2 N n (lN c) (nI i) h = some (wrf h c, h)
  | 0, i, h1, h2 => by
    have := kid_le c
    omega
  | n + 1, i, h1, h2 => by
    have k27 := kid_le c
    show f_X9_withCode_2_b N (f_X9_withCode_2 N n) _ _ h = _
    unfold f_X9_withCode_2_b
    rw [ite_i (show (27 : Int32) ≤ nI i ↔ 27 ≤ i from nI_leI (a := 27) (by decide) (by omega))]
    by_cases e : 27 ≤ i
    · rw [if_pos e]
      unfold wrf
      rw [if_neg (by omega)]
    · have kc : lg_cmp (wcode i) (lN c) = 0 ↔ kid c = i := by
        rw [lg_cmp_eq, k32_code i (by omega), fb_lN_inj (by have := (k32_W (show i < 27 by omega)).lt; omega) (by have := hc.lt; omega), kid_iff (by omega)]
        exact eq_comm
      rw [if_neg e, ck_p (nI_ix (by omega) (by decide)), ix_nI (by omega), wix_W inj (by omega), rq_s, ite_i kc]
      by_cases q : kid c = i
      · rw [if_pos q]
        unfold wrf
        rw [if_pos (by omega), q]
      · rw [if_neg q, bd_e, nI_1]
        exact z_wc inj hc n (i + 1) (by omega) (by omega)
theorem z_withCode (hN : 100 ≤ N) {h : PH} (inj : ∀ i j, i < 27 → j < 27 → hW h i = hW h j → i = j) {c : Nat} (hc : Wrd c) : f_X9_withCode N (lN c) h = some (wrf h c, h) := z_wc inj hc N 0 (by omega) (Nat.zero_le _)
/-- blanks are left out -/
theorem z_sk : ∀ (n p : Nat) (h : PH), X.1 < n + p → p ≤ X.1 → TB X x h → hI h (x + 1) 2 = nI p → ∃ h', f_X5_step_8 N n (x + 1) h = f_X5_step_60 N (x + 1) h' ∧ Kx x (fun z => z ≠ x + 1) h h' ∧ (∀ k, k ≠ 2 → hI h' (x + 1) k = hI h (x + 1) k) ∧ hI h' (x + 1) 2 = nI (xbg X p)
  | 0, p, h, h1, h2, _, _ => by omega
  | n + 1, p, h, h1, h2, tb, e2 => by
    obtain ⟨p1, p2, p3, ⟨p4, p4'⟩, p5, p6⟩ := id tb
    have R2 : hR h (x + 1) 0 = some (x + 2) := p1.2.1
    have K2 : hK h (x + 2) = 11 := p1.2.2.1
    have N2 : COneSmokeLaw_law_r9589_37766e.hN h (x + 2) = 1000 := p1.2.2.2
    show ∃ h', f_X5_step_8_b N (f_X5_step_8 N n) (x + 1) h = _ ∧ _
    unfold f_X5_step_8_b f_X5_step_47
    rw [ck_p p1.1, p5, e2, ite_i (nI_leI (by omega) (by omega))]
    by_cases c : X.1 ≤ p
    · rw [if_pos c]
      refine ⟨h, rfl, Kx.rf, fun _ _ => rfl, ?_⟩
      unfold xbg
      rw [xrun_out (fun z => by have := (xin_iff.mp z).1; omega)]
      exact e2
    · have ch := p4' p (by omega)
      have jp : inb (nI p) 1000 := nI_ix (by omega) (by decide)
      have xp : ix (nI p) = p := ix_nI (by omega)
      have e32 : nI (X.2 p) = (32 : Int32) ↔ X.2 p = 32 := nI_eq (b := 32) (by omega) (by decide)
      have e10 : nI (X.2 p) = (10 : Int32) ↔ X.2 p = 10 := nI_eq (b := 10) (by omega) (by decide)
      rw [if_neg c, R2, rq_s, ck_p K2, N2, ck_p jp, xp, p6 p (by omega), ite_i e32]
      -- a blank
      have go : isB (X.2 p) = true → ∃ h', (ck (hK h (x + 1) = 5) <| bd (sI h (x + 1) 2 (nI p + (1 : Int32))) fun h2 => f_X5_step_8 N n (x + 1) h2) = f_X5_step_60 N (x + 1) h' ∧ Kx x (fun z => z ≠ x + 1) h h' ∧ (∀ k, k ≠ 2 → hI h' (x + 1) k = hI h (x + 1) k) ∧ hI h' (x + 1) 2 = nI (xbg X p) := fun q => by
        have f1 : hI (sI h (x + 1) 2 (nI (p + 1))) (x + 1) = va_up (hI h (x + 1)) 2 (nI (p + 1)) := hI_sI_eq
        obtain ⟨h', r1, r2, r3, r4⟩ := z_sk n (p + 1) (sI h (x + 1) 2 (nI (p + 1))) (by omega) (by omega) (tb.kx tkx (by rw [f1, va_ne (by decide)])) (by rw [f1, va_eq])
        refine ⟨h', ?_, tkx.trans r2, fun k hk => by rw [r3 k hk, f1, va_ne hk], ?_⟩
        · rw [ck_p p1.1, nI_1, bd_e]
          exact r1
        · rw [r4]
          unfold xbg
          rw [xrun_in (p := p) (xin_iff.mpr ⟨by omega, q⟩)]
      by_cases q1 : X.2 p = 32
      · rw [if_pos q1]
        exact go (isB_iff.mpr (Or.inl q1))
      · rw [if_neg q1, rq_s, ck_p K2, N2, ck_p jp, p6 p (by omega), ite_i e10]
        by_cases q2 : X.2 p = 10
        · rw [if_pos q2]
          exact go (isB_iff.mpr (Or.inr q2))
        · rw [if_neg q2]
          refine ⟨h, rfl, Kx.rf, fun _ _ => rfl, ?_⟩
          unfold xbg
          rw [xrun_out (fun z => by
            rcases isB_iff.mp (xin_iff.mp z).2 with e | e
            · exact q1 e
            · exact q2 e)]
          exact e2
/-- the letters of a word -/
theorem z_tw {b : Nat} (hb : b ≤ X.1) : ∀ (n m : Nat) (h : PH), X.1 < n + (b + m) → b + m ≤ X.1 → xrun X isL b = xrun X isL (b + m) → TB X x h → hI h (x + 1) 2 = nI (b + m) → hJ h (x + 1) 6 = lN (xtW X.2 b m) → ∃ h', f_X5_takeWord_5 N n (x + 1) h = f_X5_takeWord_72 N (x + 1) h' ∧ Kx x (fun z => z ≠ x + 1) h h' ∧ (∀ k, k ≠ 2 → hI h' (x + 1) k = hI h (x + 1) k) ∧ hI h' (x + 1) 2 = nI (xrun X isL b) ∧ hJ h' (x + 1) 6 = lN (xtW X.2 b (xrun X isL b - b))
  | 0, m, h, h1, h2, _, _, _, _ => by omega
  | n + 1, m, h, h1, h2, er, tb, e2, e6 => by
    obtain ⟨p1, p2, p3, ⟨p4, p4'⟩, p5, p6⟩ := id tb
    have R2 : hR h (x + 1) 0 = some (x + 2) := p1.2.1
    have K2 : hK h (x + 2) = 11 := p1.2.2.1
    have N2 : COneSmokeLaw_law_r9589_37766e.hN h (x + 2) = 1000 := p1.2.2.2
    have fin : ¬ xin X isL (b + m) = true → ∃ h', f_X5_takeWord_72 N (x + 1) h = f_X5_takeWord_72 N (x + 1) h' ∧ Kx x (fun z => z ≠ x + 1) h h' ∧ (∀ k, k ≠ 2 → hI h' (x + 1) k = hI h (x + 1) k) ∧ hI h' (x + 1) 2 = nI (xrun X isL b) ∧ hJ h' (x + 1) 6 = lN (xtW X.2 b (xrun X isL b - b)) := fun z => by
      have e : xrun X isL b = b + m := er.trans (xrun_out z)
      refine ⟨h, rfl, Kx.rf, fun _ _ => rfl, by rw [e]; exact e2, ?_⟩
      rw [e, show b + m - b = m by omega]
      exact e6
    show ∃ h', f_X5_takeWord_5_b N (f_X5_takeWord_5 N n) (x + 1) h = _ ∧ _
    unfold f_X5_takeWord_5_b
    rw [ck_p p1.1, p5, e2, ite_i (nI_leI (by omega) (by omega))]
    by_cases c : X.1 ≤ b + m
    · rw [if_pos c]
      exact fin (fun z => by have := (xin_iff.mp z).1; omega)
    · have ch := p4' (b + m) (by omega)
      have jp : inb (nI (b + m)) 1000 := nI_ix (by omega) (by decide)
      have xp : ix (nI (b + m)) = b + m := ix_nI (by omega)
      rw [if_neg c, R2, rq_s, ck_p K2, N2, ck_p jp, xp, p6 (b + m) (by omega), z_isL (by omega), cl_s, ite_i yb0]
      by_cases q : isL (X.2 (b + m)) = true
      · have qq := isL_iff.mp q
        have f1 : hI (sI (sJ h (x + 1) 6 (lN (xtW X.2 b (m + 1)))) (x + 1) 2 (nI (b + (m + 1)))) (x + 1) = va_up (hI h (x + 1)) 2 (nI (b + (m + 1))) := hI_sI_eq
        have j1 : hJ (sI (sJ h (x + 1) 6 (lN (xtW X.2 b (m + 1)))) (x + 1) 2 (nI (b + (m + 1)))) (x + 1) 6 = lN (xtW X.2 b (m + 1)) := up2_self _ _ _ _
        have ev : (((hJ h (x + 1) 6) * (32 : Int64)) + ((nI (X.2 (b + m)) - (97 : Int32)) + (1 : Int32)).toInt64) = lN (xtW X.2 b (m + 1)) := by
          rw [e6, show (97 : Int32) = nI 97 from rfl, pk_sub (show 97 ≤ X.2 (b + m) by omega), nI_1, nI_l (by omega), show (32 : Int64) = lN 32 from rfl, lN_mul, lN_add]
          show lN (xtW X.2 b m * 32 + (X.2 (b + m) - 97 + 1)) = lN (xtW X.2 b m * 32 + (X.2 (b + m) - 96))
          rw [show X.2 (b + m) - 97 + 1 = X.2 (b + m) - 96 by omega]
        obtain ⟨h', r1, r2, r3, r4, r5⟩ := z_tw hb n (m + 1) (sI (sJ h (x + 1) 6 (lN (xtW X.2 b (m + 1)))) (x + 1) 2 (nI (b + (m + 1)))) (by omega) (by omega) (by rw [er, xrun_in (xin_iff.mpr ⟨by omega, q⟩)]; rfl) (tb.kx (tkJ.trans tkx) (by rw [f1, va_ne (by decide)])) (by rw [f1, va_eq]) j1
        refine ⟨h', ?_, (tkJ.trans tkx).trans r2, fun k hk => by rw [r3 k hk, f1, va_ne hk], r4, r5⟩
        rw [if_neg (by rw [q]; decide), ck_p p1.1, R2, rq_s, ck_p K2, N2, e2, ck_p jp, xp, p6 (b + m) (by omega), ev, bd_e, ck_p (show hK (sJ h (x + 1) 6 (lN (xtW X.2 b (m + 1)))) (x + 1) = 5 from p1.1), hI_sJ, e2, nI_1, bd_e]
        exact r1
      · rw [if_pos (by simpa using q)]
        exact fin (fun z => q (xin_iff.mp z).2)
/-- a word is taken -/
theorem z_takeWord (hN : 2000 ≤ N) {b : Nat} (hb : b < X.1) (hL : isL (X.2 b) = true) {h : PH} (tb : TB X x h) (e2 : hI h (x + 1) 2 = nI b) (e4 : hI h (x + 1) 4 = nI b) : ∃ h', f_X5_takeWord N (x + 1) h = some ((), h') ∧ Kx x (fun z => z ≠ x + 1) h h' ∧ (∀ k, k ≠ 2 → k ≠ 3 → hI h' (x + 1) k = hI h (x + 1) k) ∧ hI h' (x + 1) 2 = nI (xrun X isL b) ∧ hI h' (x + 1) 3 = (if xrun X isL b - b ≤ 8 then 2 else 0) ∧ (xrun X isL b - b ≤ 8 → hJ h' (x + 1) 6 = lN (xtW X.2 b (xrun X isL b - b)) ∧ hR h' (x + 1) 7 = wrf h' (xtW X.2 b (xrun X isL b - b))) := by
  have t1 : TB X x (sJ h (x + 1) 6 (0 : Int64)) := tb.kx tkJ rfl
  obtain ⟨g, r1, r2, r3, r4, r5⟩ := z_tw (N := N) (x := x) (X := X) (b := b) (by omega) N 0 (sJ h (x + 1) 6 (0 : Int64)) (by have := tb.2.2.2.1.1; omega) (by omega) rfl t1 e2 (up2_self _ _ _ _)
  have k1 := (tkJ (x := x) (h := h) (k := 6) (v := (0 : Int64))).trans r2
  have tg : TB X x g := tb.kx k1 (r3 1 (by decide))
  have ge := xrun_ge (X := X) (c := isL) (p := b)
  have le := xrun_le (X := X) (c := isL) (show b ≤ X.1 by omega)
  have l1 := tb.2.2.2.1.1
  have gt := xrun_gt (X := X) (c := isL) (p := b) (xin_iff.mpr ⟨hb, hL⟩)
  have e4g : hI g (x + 1) 4 = nI b := (r3 4 (by decide)).trans e4
  have un1 : f_X5_takeWord N (x + 1) h = f_X5_takeWord_72 N (x + 1) g := by
    unfold f_X5_takeWord
    rw [ck_p tb.1.1, bd_e]
    exact r1
  rw [un1]
  unfold f_X5_takeWord_72
  rw [ck_p tg.1.1, r4, e4g, pk_sub ge, ite_i (show nI (xrun X isL b - b) ≤ (8 : Int32) ↔ xrun X isL b - b ≤ 8 from nI_leI (b := 8) (by omega) (by decide))]
  by_cases c : xrun X isL b - b ≤ 8
  · have wd : Wrd (xtW X.2 b (xrun X isL b - b)) := ⟨_, by omega, c, xtW_W _ (fun k hk => isL_iff.mp (xrun_all (X := X) (c := isL) (p := b) (by omega) (by omega)))⟩
    have f1 : hI (sI g (x + 1) 3 2) (x + 1) = va_up (hI g (x + 1)) 3 2 := hI_sI_eq
    have wc := z_withCode (N := N) (by omega) (h := sI g (x + 1) 3 2) tg.2.2.1 wd
    have r5' : hJ (sI g (x + 1) 3 2) (x + 1) 6 = lN (xtW X.2 b (xrun X isL b - b)) := r5
    rw [if_pos c, bd_e, ck_p (show hK (sI g (x + 1) 3 2) (x + 1) = 5 from tg.1.1), r5', wc, cl_s, ck_p (show hK (sI g (x + 1) 3 2) (x + 1) = 5 from tg.1.1), bd_e]
    refine ⟨_, rfl, (k1.trans tkx).trans tkR, fun k q1 q2 => ?_, ?_, ?_, fun _ => ⟨r5, up2_self _ _ _ _⟩⟩
    · show hI (sI g (x + 1) 3 2) (x + 1) k = _
      rw [f1, va_ne q2]
      exact r3 k q1
    · show hI (sI g (x + 1) 3 2) (x + 1) 2 = _
      rw [f1, va_ne (by decide)]
      exact r4
    · show hI (sI g (x + 1) 3 2) (x + 1) 3 = _
      rw [f1, va_eq, if_pos c]
  · have f1 : hI (sI g (x + 1) 3 0) (x + 1) = va_up (hI g (x + 1)) 3 0 := hI_sI_eq
    rw [if_neg c, bd_e]
    exact ⟨_, rfl, k1.trans tkx, fun k q1 q2 => by rw [f1, va_ne q2]; exact r3 k q1, by rw [f1, va_ne (by decide)]; exact r4, by rw [f1, va_eq, if_neg c], fun z => absurd z c⟩
/-- the digits of a number -/
theorem z_tn {b : Nat} (hb : b ≤ X.1) : ∀ (n m : Nat) (h : PH), X.1 < n + (b + m) → b + m ≤ X.1 → xrun X isD b = xrun X isD (b + m) → TB X x h → hI h (x + 1) 2 = nI (b + m) → hI h (x + 1) 5 = nI (xdW X.2 b m) → ∃ h', f_X5_takeNumber_5 N n (x + 1) h = f_X5_takeNumber_68 N (x + 1) h' ∧ Kx x (fun z => z ≠ x + 1) h h' ∧ (∀ k, k ≠ 2 → k ≠ 5 → hI h' (x + 1) k = hI h (x + 1) k) ∧ hI h' (x + 1) 2 = nI (xrun X isD b) ∧ hI h' (x + 1) 5 = nI (xdW X.2 b (xrun X isD b - b))
  | 0, m, h, h1, h2, _, _, _, _ => by omega
  | n + 1, m, h, h1, h2, er, tb, e2, e5 => by
    obtain ⟨p1, p2, p3, ⟨p4, p4'⟩, p5, p6⟩ := id tb
    have R2 : hR h (x + 1) 0 = some (x + 2) := p1.2.1
    have K2 : hK h (x + 2) = 11 := p1.2.2.1
    have N2 : COneSmokeLaw_law_r9589_37766e.hN h (x + 2) = 1000 := p1.2.2.2
    have fin : ¬ xin X isD (b + m) = true → ∃ h', f_X5_takeNumber_68 N (x + 1) h = f_X5_takeNumber_68 N (x + 1) h' ∧ Kx x (fun z => z ≠ x + 1) h h' ∧ (∀ k, k ≠ 2 → k ≠ 5 → hI h' (x + 1) k = hI h (x + 1) k) ∧ hI h' (x + 1) 2 = nI (xrun X isD b) ∧ hI h' (x + 1) 5 = nI (xdW X.2 b (xrun X isD b - b)) := fun z => by
      have e : xrun X isD b = b + m := er.trans (xrun_out z)
      refine ⟨h, rfl, Kx.rf, fun _ _ _ => rfl, by rw [e]; exact e2, ?_⟩
      rw [e, show b + m - b = m by omega]
      exact e5
    show ∃ h', f_X5_takeNumber_5_b N (f_X5_takeNumber_5 N n) (x + 1) h = _ ∧ _
    unfold f_X5_takeNumber_5_b
    rw [ck_p p1.1, p5, e2, ite_i (nI_leI (by omega) (by omega))]
    by_cases c : X.1 ≤ b + m
    · rw [if_pos c]
      exact fin (fun z => by have := (xin_iff.mp z).1; omega)
    · have ch := p4' (b + m) (by omega)
      have jp : inb (nI (b + m)) 1000 := nI_ix (by omega) (by decide)
      have xp : ix (nI (b + m)) = b + m := ix_nI (by omega)
      rw [if_neg c, R2, rq_s, ck_p K2, N2, ck_p jp, xp, p6 (b + m) (by omega), z_isD (by omega), cl_s, ite_i yb0]
      by_cases q : isD (X.2 (b + m)) = true
      · have qq := isD_iff.mp q
        have f0 : hI (sI h (x + 1) 5 (nI (xdW X.2 b (m + 1)))) (x + 1) = va_up (hI h (x + 1)) 5 (nI (xdW X.2 b (m + 1))) := hI_sI_eq
        have f1 : hI (sI (sI h (x + 1) 5 (nI (xdW X.2 b (m + 1)))) (x + 1) 2 (nI (b + (m + 1)))) (x + 1) = va_up (va_up (hI h (x + 1)) 5 (nI (xdW X.2 b (m + 1)))) 2 (nI (b + (m + 1))) := by rw [hI_sI_eq, f0]
        have ev : (((hI h (x + 1) 5) * (10 : Int32)) + (nI (X.2 (b + m)) - (48 : Int32))) = nI (xdW X.2 b (m + 1)) := by
          rw [e5, show (48 : Int32) = nI 48 from rfl, pk_sub (show 48 ≤ X.2 (b + m) by omega), show (10 : Int32) = nI 10 from rfl, pk_mul, nI_add]
          rfl
        obtain ⟨h', r1, r2, r3, r4, r5⟩ := z_tn hb n (m + 1) (sI (sI h (x + 1) 5 (nI (xdW X.2 b (m + 1)))) (x + 1) 2 (nI (b + (m + 1)))) (by omega) (by omega) (by rw [er, xrun_in (xin_iff.mpr ⟨by omega, q⟩)]; rfl) (tb.kx (tkx.trans tkx) (by rw [f1, va_ne (by decide), va_ne (by decide)])) (by rw [f1, va_eq]) (by rw [f1, va_ne (by decide), va_eq])
        refine ⟨h', ?_, (tkx.trans tkx).trans r2, fun k q1 q2 => by rw [r3 k q1 q2, f1, va_ne q1, va_ne q2], r4, r5⟩
        rw [if_neg (by rw [q]; decide), ck_p p1.1, R2, rq_s, ck_p K2, N2, e2, ck_p jp, xp, p6 (b + m) (by omega), ev, bd_e, ck_p (show hK (sI h (x + 1) 5 (nI (xdW X.2 b (m + 1)))) (x + 1) = 5 from p1.1), f0, va_ne (by decide), e2, nI_1, bd_e]
        exact r1
      · rw [if_pos (by simpa using q)]
        exact fin (fun z => q (xin_iff.mp z).2)
theorem z_takeNumber (hN : 2000 ≤ N) {b : Nat} (hb : b < X.1) {h : PH} (tb : TB X x h) (e2 : hI h (x + 1) 2 = nI b) (e4 : hI h (x + 1) 4 = nI b) : ∃ h', f_X5_takeNumber N (x + 1) h = some ((), h') ∧ Kx x (fun z => z ≠ x + 1) h h' ∧ (∀ k, k ≠ 2 → k ≠ 3 → k ≠ 5 → hI h' (x + 1) k = hI h (x + 1) k) ∧ hI h' (x + 1) 2 = nI (xrun X isD b) ∧ hI h' (x + 1) 3 = (if xrun X isD b - b ≤ 4 then 3 else 0) ∧ hI h' (x + 1) 5 = nI (xdW X.2 b (xrun X isD b - b)) := by
  have f0 : hI (sI h (x + 1) 5 0) (x + 1) = va_up (hI h (x + 1)) 5 0 := hI_sI_eq
  have t1 : TB X x (sI h (x + 1) 5 0) := tb.kx tkx (by rw [f0, va_ne (by decide)])
  obtain ⟨g, r1, r2, r3, r4, r5⟩ := z_tn (N := N) (x := x) (X := X) (b := b) (by omega) N 0 (sI h (x + 1) 5 0) (by have := tb.2.2.2.1.1; omega) (by omega) rfl t1 (by rw [f0, va_ne (by decide)]; exact e2) (by rw [f0, va_eq]; rfl)
  have k1 := (tkx (x := x) (h := h) (k := 5) (v := 0)).trans r2
  have rr : ∀ k, k ≠ 2 → k ≠ 5 → hI g (x + 1) k = hI h (x + 1) k := fun k q1 q2 => by rw [r3 k q1 q2, f0, va_ne q2]
  have tg : TB X x g := tb.kx k1 (rr 1 (by decide) (by decide))
  have ge := xrun_ge (X := X) (c := isD) (p := b)
  have le := xrun_le (X := X) (c := isD) (show b ≤ X.1 by omega)
  have l1 := tb.2.2.2.1.1
  have e4g : hI g (x + 1) 4 = nI b := (rr 4 (by decide) (by decide)).trans e4
  have un1 : f_X5_takeNumber N (x + 1) h = f_X5_takeNumber_68 N (x + 1) g := by
    unfold f_X5_takeNumber
    rw [ck_p tb.1.1, bd_e]
    exact r1
  have fin : ∀ v : Int32, v = (if xrun X isD b - b ≤ 4 then 3 else 0) → ∃ h', f_X5_takeNumber_87 N v (x + 1) g = some ((), h') ∧ Kx x (fun z => z ≠ x + 1) h h' ∧ (∀ k, k ≠ 2 → k ≠ 3 → k ≠ 5 → hI h' (x + 1) k = hI h (x + 1) k) ∧ hI h' (x + 1) 2 = nI (xrun X isD b) ∧ hI h' (x + 1) 3 = (if xrun X isD b - b ≤ 4 then 3 else 0) ∧ hI h' (x + 1) 5 = nI (xdW X.2 b (xrun X isD b - b)) := fun v hv => by
    have f1 : hI (sI g (x + 1) 3 v) (x + 1) = va_up (hI g (x + 1)) 3 v := hI_sI_eq
    unfold f_X5_takeNumber_87
    rw [ck_p tg.1.1, bd_e]
    exact ⟨_, rfl, k1.trans tkx, fun k q1 q2 q3 => by rw [f1, va_ne q2]; exact rr k q1 q3, by rw [f1, va_ne (by decide)]; exact r4, by rw [f1, va_eq]; exact hv, by rw [f1, va_ne (by decide)]; exact r5⟩
  rw [un1]
  unfold f_X5_takeNumber_68
  rw [ck_p tg.1.1, r4, e4g, pk_sub ge, ite_i (show nI (xrun X isD b - b) ≤ (4 : Int32) ↔ xrun X isD b - b ≤ 4 from nI_leI (b := 4) (by omega) (by decide))]
  by_cases c : xrun X isD b - b ≤ 4
  · rw [if_pos c]
    exact fin 3 (by rw [if_pos c])
  · rw [if_neg c]
    exact fin 0 (by rw [if_neg c])
/-- which of the single signs it is -/
def gix (s : Nat) : Nat → Nat → Int32
  | 0, _ => -1
  | n + 1, i => if gsingles i = nI s then nI i else gix s n (i + 1)
theorem gix_8 : ∀ s, s < 128 → (gix s 8 0 < 0 ↔ isG s = false) := by decide +kernel
theorem z_ixc {h : PH} {s : Nat} : ∀ (n i d : Nat), d < n → i + d = 8 → f_J1_indexOfChar_4cfef_7 N n (hW h 30) 8 (nI s) (nI i) h = some (gix s d i, h)
  | 0, i, d, h1, h2 => by omega
  | n + 1, i, d, h1, h2 => by
    show f_J1_indexOfChar_4cfef_7_b N (f_J1_indexOfChar_4cfef_7 N n) _ _ _ _ h = _
    unfold f_J1_indexOfChar_4cfef_7_b
    rw [ite_i (show (8 : Int32) ≤ nI i ↔ 8 ≤ i from nI_leI (a := 8) (by decide) (by omega))]
    match d, h1, h2 with
    | 0, h1, h2 =>
      rw [if_pos (by omega)]
      rfl
    | d + 1, h1, h2 =>
      rw [if_neg (by omega), ck_p rfl, ck_p (nI_ix (by omega) (by decide)), ix_nI (by omega)]
      unfold gix
      by_cases e : gsingles i = nI s
      · rw [if_pos e, if_pos e]
      · rw [if_neg e, if_neg e, bd_e, nI_1]
        exact z_ixc n (i + 1) d (by omega) (by omega)
theorem z_indexOf (hN : 100 ≤ N) {h : PH} {s : Nat} (hs : s < 128) : f_J0_indexOf_0f7a4 N (hW h 29) (nI s) h = some (gix s 8 0, h) := by
  have e8 : (8 : Int32) >>> ((0 : Int32) &&& 31) = 8 := by decide
  unfold f_J0_indexOf_0f7a4 f_J0_indexOf_7cf53 f_J0_isLatin1_aae02 f_J0_length_8abf5 f_J0_coder_7d493 f_J1_indexOf_4cfef f_J1_canEncode_9a6ad f_J1_indexOfChar_4cfef
  rw [ck_p rfl, ck_p rfl, if_neg (by decide), ck_p rfl, if_pos rfl, cl_s, if_neg (by decide), ck_p rfl, ck_p rfl, ck_p rfl, if_neg (by decide), ck_p rfl, cl_s, cl_s, e8, if_neg (nI_pos (by omega)), if_neg (show ¬ (255 : Int32) < nI s from nI_nlt (a := 255) (by omega) (by decide)), cl_s, if_neg (by decide), if_neg (by decide), bd_e, ck_p rfl, if_neg (by decide), bd_e, if_pos (by decide), fa_byte_small hs, bd_e]
  have := z_ixc (N := N) (h := h) (s := s) N 0 8 (by omega) rfl
  have this : f_J1_indexOfChar_4cfef_7 N N (hW h 30) 8 (nI s) 0 h = _ := this
  rw [this, cl_s, cl_s, cl_s]
end CLX
