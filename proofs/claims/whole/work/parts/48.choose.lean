/-! The class's walk: the ways gone through. -/
def frc (A : AV) (w b f : Nat) : Nat := if f < aC A 0 then gv A (f + 1) (aB A f) w b else 0
def dS (A : AV) (V : Nat) (u : Nat → Nat) (w b k : Nat) : Nat := fb_sm (fun i => if V.testBit i = true then frc A w b (cu A (u i)) else 0) k
def takeL (t : (Nat → Nat) → Bool) : List (Nat → Nat) → List (Nat → Nat) → List (Nat → Nat)
  | [], l => l
  | u :: us, l => takeL t us (if t u = true then u :: l else l)
theorem takeL_app {t : (Nat → Nat) → Bool} : ∀ a b l, takeL t (a ++ b) l = takeL t b (takeL t a l)
  | [], _, _ => rfl
  | u :: a, b, l => takeL_app a b _
theorem takeL_len {t : (Nat → Nat) → Bool} : ∀ a l, (takeL t a l).length ≤ l.length + a.length
  | [], _ => Nat.le_refl _
  | u :: a, l => by
    have := takeL_len (t := t) a (if t u = true then u :: l else l)
    show (takeL t a (if t u = true then u :: l else l)).length ≤ _
    rw [List.length_cons]
    split at this <;> rename_i c
    · rw [if_pos c]; rw [List.length_cons] at this; omega
    · rw [if_neg c]; omega
theorem takeL_ok {A : AV} {t : (Nat → Nat) → Bool} : ∀ a l, okL A a → okL A l → okL A (takeL t a l)
  | [], _, _, h => h
  | u :: a, l, ha, hl => takeL_ok a _ (fun z hz => ha z (List.mem_cons_of_mem _ hz)) (by
    split
    · exact fun z hz => by
        rcases List.mem_cons.mp hz with e | e
        · rw [e]; exact ha u List.mem_cons_self
        · exact hl z e
    · exact hl)
section CHO
variable {N : Nat} {A : AV} {S : AS}
theorem frc_le (hW : WV A) (w b f : Nat) : frc A w b f ≤ 999 := by
  unfold frc
  split
  · exact gv_le hW _ _ _ _
  · omega
theorem dS_le (hW : WV A) (V : Nat) (u : Nat → Nat) (w b k : Nat) : dS A V u w b k ≤ k * 999 := fb_sm_bound (fun j _ => by
  split
  · exact frc_le hW _ _ _
  · omega)
theorem c_fresh (hN : 2000 ≤ N) {h : PH} {v w b f : Nat} (p : VA h v A) (hf : f ≤ aC A 0) (hw : w ≤ 9) (hb : b < 2) : ∃ h', f_X6_fresh N v (nI f) (nI w) (nI b) h = some (nI (frc A w b f), h') ∧ Gx v h h' ∧ VA h' v A := by
  have hW := p.2.2.1
  have h5 := hW.1.1
  unfold f_X6_fresh frc
  rw [ck_p p.1.1, c_has0 p, cl_s]
  by_cases c : f < aC A 0
  · have hB := hW.2.1 f c
    obtain ⟨h', r1, r2, r3⟩ := c_givesOf (N := N) hN p (F := f + 1) (l := aB A f) (w := w) (b := b) (by omega) hB.2.2.2 hw hb
    rw [pk_m1] at r1
    rw [yesT (toldI (by omega) c), if_neg one0, ck_p p.1.1, vR_burns p.1, rq_s, ck_p (vK_burns p.1), vN_burns p.1, ck_p (nI_ix (by omega) (by decide)), ix_nI (by omega), (p.2.1.2.2.1 f c).2.2, r1, cl_s, if_pos c]
    exact ⟨h', rfl, r2, r3⟩
  · rw [yesF (fun z => c (by have := z.2; rw [nI_leI (by omega) (by omega)] at this; omega)), if_pos rfl, if_neg c]
    exact ⟨h, rfl, Gx.rf, p⟩
theorem fb_add {f g : Nat → Nat} : ∀ n, fb_sm f n + fb_sm g n = fb_sm (fun i => f i + g i) n
  | 0 => rfl
  | n + 1 => by
    have := fb_add (f := f) (g := g) n
    show fb_sm f n + f n + (fb_sm g n + g n) = fb_sm (fun i => f i + g i) n + (f n + g n)
    omega
theorem fb_cong {f g : Nat → Nat} : ∀ {n}, (∀ i, i < n → f i = g i) → fb_sm f n = fb_sm g n
  | 0, _ => rfl
  | n + 1, h => by
    show fb_sm f n + f n = fb_sm g n + g n
    rw [fb_cong (fun i hi => h i (by omega)), h n (by omega)]
/-- the houses of a flue without a fire -/
def noF (A : AV) (S : AS) (f : Nat) : Nat := bts (fun i => decide (aF A i = f) && decide (tL S i = 0)) (aC A 2)
theorem noF_b {f i : Nat} : (noF A S f).testBit i = true ↔ (i < aC A 2 ∧ aF A i = f ∧ tL S i = 0) := by
  unfold noF
  rw [bts_tb]
  simp
theorem aHs_b {f i : Nat} : (aHs A f).testBit i = true ↔ (i < aC A 2 ∧ aF A i = f) := by
  unfold aHs
  rw [bts_tb]
  simp
theorem frc_cu (hW : WV A) {n w b : Nat} (h : n = 5 ∨ n < aC A 0) : frc A w b (cu A n) = if n = 5 then 0 else gv A (n + 1) (aB A n) w b := by
  have h5 := hW.1.1
  unfold frc cu
  by_cases c : n = 5
  · rw [if_pos c, if_pos c, if_neg (by omega)]
  · rw [if_neg c, if_neg c, if_pos (h.resolve_left c)]
theorem leaf_eq {J : Nat} (hW : WV A) (hT : WS A J S) {u : Nat → Nat} (ok : okU A u) (f b : Nat) : min (smX A S (aHs A f) b + dS A (noF A S f) u (aWind A (tH S)) b 4) 999 = sb A S u f b := by
  have h4 := hW.1.2.2.1
  have e : smk A S (aHs A f) (aWind A (tH S)) b + dS A (noF A S f) u (aWind A (tH S)) b 4 = fb_sm (fun i => if aF A i = f then gb A S u (aWind A (tH S)) b i else 0) (aC A 2) := by
    unfold smk dS
    rw [fb_add, show (4 : Nat) = aC A 2 + (4 - aC A 2) by omega, fb_more _ (fun i h1 h2 => ?_)]
    · refine fb_cong (fun i hi => ?_)
      by_cases c : aF A i = f
      · rw [if_pos (aHs_b.mpr ⟨hi, c⟩), if_pos c]
        have tl := hT.2.1 i (by omega)
        unfold gb
        by_cases z : tL S i = 0
        · have zf : tF S i = 0 := tl.2.2.1.mp z
          have g0 : gv A (tF S i) (tL S i) (aWind A (tH S)) b = 0 := by unfold gv; rw [if_pos (Or.inl zf)]
          rw [if_pos (noF_b.mpr ⟨hi, c, z⟩), frc_cu hW (ok i (by omega)), g0]
          by_cases u5 : u i = 5
          · rw [if_pos u5, if_pos (Or.inr u5)]
          · rw [if_neg u5, if_neg (fun q => q.elim (fun q => by omega) u5)]
            omega
        · rw [if_neg (fun q => z (noF_b.mp q).2.2), if_pos (Or.inl (by omega))]
          omega
      · rw [if_neg (fun q => c (aHs_b.mp q).2), if_neg (fun q => c (noF_b.mp q).2.1), if_neg c]
    · rw [if_neg (fun q => by have := (aHs_b.mp q).1; omega), if_neg (fun q => by have := (noF_b.mp q).1; omega)]
  unfold sb smX
  rw [← e]
  omega
theorem bt6 : ∀ Y, Y < 64 → ∀ f, f < 6 → (((nI Y >>> (nI f &&& 31)) &&& (1 : Int32)) = 0 ↔ Y.testBit f = false) := by decide +kernel
theorem or6 : ∀ Y, Y < 64 → ∀ f, f < 6 → (nI Y ||| ((1 : Int32) <<< (nI f &&& 31))) = nI (Y ||| 2 ^ f) := by decide +kernel
theorem sh6 : ∀ f, f < 6 → ((1 : Int32) <<< (nI f &&& 31)) = nI (2 ^ f) := by decide +kernel
/-- the class's number of a choice, back -/
def un (F f : Nat) : Nat := if f = F then 5 else f
theorem cu_un (h5 : aC A 0 ≤ 5) {f : Nat} (hf : f ≤ aC A 0) : cu A (un (aC A 0) f) = f := by
  unfold cu un
  by_cases c : f = aC A 0
  · rw [if_pos c, if_pos rfl, c]
  · rw [if_neg c, if_neg (by omega)]
theorem rkX_s {V k : Nat} (t : V.testBit k = true) : rkX V (k + 1) = rkX V k + 1 := by
  show rkX V k + (if V.testBit k = true then 1 else 0) = _
  rw [if_pos t]
theorem dS_s {V k w b : Nat} {u : Nat → Nat} (t : V.testBit k = true) : dS A V u w b (k + 1) = dS A V u w b k + frc A w b (cu A (u k)) := by
  show fb_sm _ k + (if V.testBit k = true then _ else 0) = _
  rw [if_pos t]
  rfl
theorem dS_u {V k w b g : Nat} {u : Nat → Nat} : dS A V (va_up u k g) w b k = dS A V u w b k := fb_cong (fun i hi => by rw [va_ne (by omega)])
variable {x v : Nat}
/-- what a walk has made of the ways us, from l on -/
def Wk (N : Nat) (A : AV) (S : AS) (R : AR) (f V w : Nat) (mi : Bool) (bs : Nat → Nat) (x v q0 : Nat) (us : List (Nat → Nat)) (l : List (Nat → Nat)) (h h' : PH) : Prop := Ex (wkP x v) h h' ∧ WFx A R f V w mi (fun j => nI (bs j)) h' x v ∧ WAc A S f V h' x (takeL (tkB A S R f mi) us l) ∧ ∀ q, q < q0 → hI h' (x + 23 + 3) q = hI h (x + 23 + 3) q
theorem c_ch30 (hN : 2000 ≤ N) {f V w k n : Nat} {R : AR} {mi : Bool} {bs : Nat → Nat} {X : Nat} {u : Nat → Nat} {RR : Nat → Int32 → Int32 → Int32 → PH → Option (Unit × PH)} {D0 D1 : Nat} (hv : x + 43 ≤ v) (hw : w ≤ 9) (hW : WV A) (hk : k < 4) (tk : V.testBit k = true) (hbs : bs k < 64)
    (hR : ∀ g l h, g ≤ aC A 0 → (bs k).testBit g = true → WFx A R f V w mi (fun j => nI (bs j)) h x v → WAc A S f V h x l → okL A l → WCh A V h x (k + 1) (va_up u k (un (aC A 0) g)) → l.length + (ws X (al A S) n (k + 1) (va_up u k (un (aC A 0) g))).length ≤ 5000 → ∃ h', RR (x + 23) (nI (rkX V (k + 1))) (nI (D0 + frc A w 0 g)) (nI (D1 + frc A w 1 g)) h = some ((), h') ∧ Wk N A S R f V w mi bs x v (rkX V (k + 1)) (ws X (al A S) n (k + 1) (va_up u k (un (aC A 0) g))) l h h')
    (okws : ∀ g, g ≤ aC A 0 → (bs k).testBit g = true → okL A (ws X (al A S) n (k + 1) (va_up u k (un (aC A 0) g)))) :
    ∀ (m g : Nat) (l : List (Nat → Nat)) (h : PH), aC A 0 + 1 < m + g → g ≤ aC A 0 + 1 → WFx A R f V w mi (fun j => nI (bs j)) h x v → WAc A S f V h x l → okL A l → WCh A V h x k u → l.length + ((cl6 (fun g => (bs k).testBit g) (aC A 0 + 1 - g) g).flatMap (fun g => ws X (al A S) n (k + 1) (va_up u k (un (aC A 0) g)))).length ≤ 5000 → ∃ h', f_X8_choose_30 RR N m (x + 23) (nI (rkX V k)) (nI D0) (nI D1) (nI g) h = some ((), h') ∧ Wk N A S R f V w mi bs x v (rkX V k) ((cl6 (fun g => (bs k).testBit g) (aC A 0 + 1 - g) g).flatMap (fun g => ws X (al A S) n (k + 1) (va_up u k (un (aC A 0) g)))) l h h'
  | 0, g, l, h, h1, h2, _, _, _, _, _ => by omega
  | m + 1, g, l, h, h1, h2, wf, wa, okl, wc, hlen => by
    have h5 := hW.1.1
    have r4 := rkX_lt hk tk
    have r44 := rkX_le V 4
    obtain ⟨wk, mt, pv, cR, r7, r8, e9, e10, e11, e12, erow⟩ := id wf
    show ∃ h', f_X8_choose_30_b RR N (f_X8_choose_30 RR N m) (x + 23) _ _ _ _ h = _ ∧ _
    unfold f_X8_choose_30_b
    rw [ck_p wk.1, r7, rq_s, ck_p pv.1.1, vR_many pv.1, rq_s, ck_p (vK_many pv.1), vN_many pv.1, ck_p (by decide), pv.2.1.1 0 (by decide), ite_i (nI_ltI (by omega) (by omega))]
    by_cases c : aC A 0 < g
    · rw [if_pos c, show aC A 0 + 1 - g = 0 by omega]
      exact ⟨h, rfl, Ex.rf, wf, wa, fun _ _ => rfl⟩
    · have jr : inb (nI (rkX V k)) 4 := nI_ix (by omega) (by decide)
      have xr : ix (nI (rkX V k)) = rkX V k := ix_nI (by omega)
      have ecl : cl6 (fun g => (bs k).testBit g) (aC A 0 + 1 - g) g = if (bs k).testBit g = true then g :: cl6 (fun g => (bs k).testBit g) (aC A 0 + 1 - (g + 1)) (g + 1) else cl6 (fun g => (bs k).testBit g) (aC A 0 + 1 - (g + 1)) (g + 1) := by
        rw [show aC A 0 + 1 - g = (aC A 0 + 1 - (g + 1)) + 1 by omega]
        rfl
      rw [if_neg c, wk.2.1.2.1, rq_s, ck_p wk.2.2.2.1.1, wk.2.2.2.1.2, ck_p jr, xr, (erow k hk tk).2, ite_i (bt6 _ hbs g (by omega))]
      unfold f_X8_choose_113
      by_cases t : (bs k).testBit g = true
      · rw [ecl, if_pos t, List.flatMap_cons] at hlen ⊢
        rw [List.length_append] at hlen
        rw [if_neg (by rw [t]; decide), wk.2.1.2.2.1, rq_s, ck_p wk.2.2.2.2.1.1, wk.2.2.2.2.1.2, ck_p jr, bd_e]
        -- the choice is written
        have y0 : Ex (wkQ x) h (sI h (x + 23 + 3) (rkX V k) (nI g)) := Ex.sI (by unfold wkQ; omega)
        have f0 : hI (sI h (x + 23 + 3) (rkX V k) (nI g)) (x + 23 + 3) = va_up (hI h (x + 23 + 3)) (rkX V k) (nI g) := hI_sI_eq
        have g0 : ∀ z, z ≠ x + 23 + 3 → hI (sI h (x + 23 + 3) (rkX V k) (nI g)) z = hI h z := fun z hz => hI_sI_ne hz
        generalize sI h (x + 23 + 3) (rkX V k) (nI g) = h0 at y0 f0 g0
        have pv0 : VA h0 v A := pv.ex y0 (fun z z1 z2 z3 => by unfold wkQ at z3; omega)
        have wf0 : WFx A R f V w mi (fun j => nI (bs j)) h0 x v := wf.ex hv (y0.mono (fun z hz => by unfold wkQ at hz; unfold wkP; omega)) pv0 (fun j _ _ => by rw [g0 _ (by omega)])
        have wc0 : WCh A V h0 x (k + 1) (va_up u k (un (aC A 0) g)) := fun j hj tj => by
          rw [f0]
          by_cases e : j = k
          · rw [e, va_eq, va_eq, cu_un h5 (by omega)]
          · rw [va_ne e, va_ne (fun z => e (rkX_inj tj tk z))]
            exact wc j (by omega) tj
        -- what it gives
        obtain ⟨h1', a1, a2, a3⟩ := c_fresh (N := N) hN pv0 (f := g) (w := w) (b := 0) (by omega) hw (by decide)
        have k1 : WFx A R f V w mi (fun j => nI (bs j)) h1' x v := wf0.ex hv (a2.ex.mono (fun z hz => by unfold wkP; omega)) a3 (fun j _ _ => by rw [a2.2.2.2 _ (by omega) (by omega) (by omega)])
        obtain ⟨h2', b1, b2, b3⟩ := c_fresh (N := N) hN a3 (f := g) (w := w) (b := 1) (by omega) hw (by decide)
        have k2 : WFx A R f V w mi (fun j => nI (bs j)) h2' x v := k1.ex hv (b2.ex.mono (fun z hz => by unfold wkP; omega)) b3 (fun j _ _ => by rw [b2.2.2.2 _ (by omega) (by omega) (by omega)])
        have oth : ∀ z, z < x + 43 → hI h2' z = hI h0 z := fun z hz => by rw [b2.2.2.2 z (by omega) (by omega) (by omega), a2.2.2.2 z (by omega) (by omega) (by omega)]
        have a1 : f_X6_fresh N v (nI g) (nI w) 0 h0 = _ := a1
        have b1 : f_X6_fresh N v (nI g) (nI w) 1 h1' = _ := b1
        have wc2 : WCh A V h2' x (k + 1) (va_up u k (un (aC A 0) g)) := fun j hj tj => by rw [oth _ (by omega)]; exact wc0 j hj tj
        have wa2 : WAc A S f V h2' x l := by
          unfold WAc at wa ⊢
          rw [oth _ (by omega), oth _ (by omega), oth _ (by omega), oth _ (by omega), oth _ (by omega), g0 _ (by omega), g0 _ (by omega), g0 _ (by omega), g0 _ (by omega), g0 _ (by omega)]
          exact wa
        obtain ⟨h3', c1, c2⟩ := hR g l h2' (by omega) t k2 wa2 okl wc2 (by omega)
        have o3 := takeL_ok (t := tkB A S R f mi) _ l (okws g (by omega) t) okl
        have l3 := takeL_len (t := tkB A S R f mi) (ws X (al A S) n (k + 1) (va_up u k (un (aC A 0) g))) l
        have rs := rkX_s (k := k) tk
        have lowq : ∀ q, q < rkX V k → hI h3' (x + 23 + 3) q = hI h (x + 23 + 3) q := fun q hq => by
          rw [c2.2.2.2 q (by omega), oth _ (by omega), f0, va_ne (by omega)]
        have wc3 : WCh A V h3' x k u := fun j hj tj => by
          rw [lowq _ (rkX_lt hj tj)]
          exact wc j hj tj
        obtain ⟨h', d1, d2⟩ := c_ch30 hN hv hw hW hk tk hbs hR okws m (g + 1) _ h3' (by omega) (by omega) c2.2.1 c2.2.2.1 o3 wc3 (by omega)
        refine ⟨h', ?_, (((y0.mono (fun z hz => by unfold wkQ at hz; unfold wkP; omega)).trans (a2.ex.mono (fun z hz => by unfold wkP; omega))).trans (b2.ex.mono (fun z hz => by unfold wkP; omega))).trans (c2.1.trans d2.1), d2.2.1, by rw [takeL_app]; exact d2.2.2.1, fun q hq => (d2.2.2.2 q hq).trans (lowq q hq)⟩
        rw [ck_p wf0.1.1, wf0.2.2.2.2.1, rq_s, ck_p pv0.1.1, wf0.2.2.2.2.2.2.2.2.2.1, a1, cl_s, ck_p k1.1.1, k1.2.2.2.2.1, rq_s, ck_p a3.1.1, k1.2.2.2.2.2.2.2.2.2.1, b1, cl_s, ck_p k2.1.1, nI_1, nI_add, nI_add, ← rkX_s tk, c1, cl_s, bd_e, nI_1]
        exact d1
      · rw [ecl, if_neg t] at hlen ⊢
        rw [if_pos (by simpa using t), bd_e, nI_1]
        exact c_ch30 hN hv hw hW hk tk hbs hR okws m (g + 1) l h (by omega) (by omega) wf wa okl wc hlen
/-- the same choices, by the class's numbers and by the reference's -/
theorem cl6_no {p : Nat → Bool} (h5 : p 5 = true) : ∀ n f, n + f = 5 → (∀ g, f ≤ g → g < 5 → p g = false) → cl6 p (n + 1) f = [5]
  | 0, f, h, _ => by
    have e : f = 5 := by omega
    subst e
    show (if p 5 = true then 5 :: cl6 p 0 6 else cl6 p 0 6) = [5]
    rw [if_pos h5]
    rfl
  | n + 1, f, h, hn => by
    show (if p f = true then f :: cl6 p (n + 1) (f + 1) else cl6 p (n + 1) (f + 1)) = [5]
    rw [hn f (Nat.le_refl _) (by omega), if_neg (by decide)]
    exact cl6_no h5 n (f + 1) (by omega) (fun g h1 h2 => hn g (by omega) h2)
theorem cl6_un {β : Type} {F : Nat} (hF : F ≤ 5) {p q : Nat → Bool} {g : Nat → List β} (h5 : p 5 = true) (hpn : ∀ f, F ≤ f → f < 5 → p f = false) (hq : ∀ f, f < F → q f = p f) (hqF : q F = true) : ∀ d f, d + f = F → (cl6 q (d + 1) f).flatMap (fun f => g (un F f)) = (cl6 p (6 - f) f).flatMap g
  | 0, f, h => by
    have e : f = F := by omega
    subst e
    rw [show 6 - f = (5 - f) + 1 by omega, cl6_no h5 (5 - f) f (by omega) hpn]
    show (if q f = true then f :: cl6 q 0 (f + 1) else cl6 q 0 (f + 1)).flatMap _ = _
    rw [if_pos hqF]
    show g (un f f) ++ [] = g 5 ++ []
    unfold un
    rw [if_pos rfl]
  | d + 1, f, h => by
    have ih := cl6_un hF (g := g) h5 hpn hq hqF d (f + 1) (by omega)
    rw [show 6 - f = (6 - (f + 1)) + 1 by omega]
    show (if q f = true then f :: cl6 q (d + 1) (f + 1) else cl6 q (d + 1) (f + 1)).flatMap _ = (if p f = true then f :: cl6 p (6 - (f + 1)) (f + 1) else cl6 p (6 - (f + 1)) (f + 1)).flatMap g
    rw [hq f (by omega)]
    by_cases c : p f = true
    · rw [if_pos c, if_pos c, List.flatMap_cons, List.flatMap_cons, ih]
      have : un F f = f := if_neg (by omega)
      rw [this]
    · rw [if_neg c, if_neg c, ih]
theorem cl6_pin {β : Type} {F i : Nat} (hi : i ≤ F) {q : Nat → Bool} {g : Nat → List β} (hq : ∀ f, f ≤ F → (q f = true ↔ f = i)) : ∀ d f, d + f = F + 1 → (cl6 q d f).flatMap g = if f ≤ i then g i else []
  | 0, f, h => by
    rw [if_neg (by omega)]
    rfl
  | d + 1, f, h => by
    have ih := cl6_pin hi (g := g) hq d (f + 1) (by omega)
    show (if q f = true then f :: cl6 q d (f + 1) else cl6 q d (f + 1)).flatMap _ = _
    by_cases c : f = i
    · rw [if_pos ((hq f (by omega)).mpr c), List.flatMap_cons, ih, if_neg (by omega), if_pos (by omega), c, List.append_nil]
    · rw [if_neg (fun z => c ((hq f (by omega)).mp z)), ih, ite_i (show f + 1 ≤ i ↔ f ≤ i by omega)]
theorem al_hi {i f : Nat} (h : aC A 0 ≤ f) (h2 : f < 5) : al A S i f = false := by
  unfold al
  simp
  omega
theorem ws_ok (hW : WV A) {X : Nat} : ∀ n k u, k + n = 4 → okU A u → okL A (ws X (al A S) n k u)
  | 0, k, u, _, h => fun z hz => by
    have := List.mem_singleton.mp hz
    rw [this]; exact h
  | n + 1, k, u, hk, h => by
    have h5 := hW.1.1
    unfold ws
    by_cases t : X.testBit k = true
    · rw [if_pos t]
      intro z hz
      obtain ⟨f, hf, hz2⟩ := List.mem_flatMap.mp hz
      refine ws_ok hW n (k + 1) (va_up u k f) (by omega) (fun i hi => ?_) z hz2
      by_cases e : i = k
      · rw [e, va_eq]
        have : ∀ d c, d + c = 6 → f ∈ cl6 (al A S k) d c → f = 5 ∨ f < aC A 0 := by
          intro d
          induction d with
          | zero => intro c _ hm; exact absurd hm (by simp [cl6])
          | succ d ih =>
            intro c hc hm
            unfold cl6 at hm
            by_cases q : al A S k c = true
            · rw [if_pos q] at hm
              rcases List.mem_cons.mp hm with e2 | e2
              · rw [e2]
                by_cases c5 : c = 5
                · exact Or.inl c5
                · refine Or.inr (Nat.lt_of_not_le (fun z => ?_))
                  rw [al_hi z (by omega)] at q
                  exact absurd q (by decide)
              · exact ih (c + 1) (by omega) e2
            · rw [if_neg q] at hm
              exact ih (c + 1) (by omega) hm
        exact this 6 0 rfl hf
      · rw [va_ne e]; exact h i hi
    · rw [if_neg t]
      exact ws_ok hW n (k + 1) u (by omega) h
theorem c_ch (hN : 2000 ≤ N) {f V w X J : Nat} {R : AR} {mi : Bool} {bs : Nat → Nat} (hv : x + 43 ≤ v) (hf : f < 1000) (hw : w = aWind A (tH S)) (hW : WV A) (hT : WS A J S) (wR : WR A R) (hV : V = noF A S f) (hXV : ∀ j, X.testBit j = true → V.testBit j = true) (hbs : ∀ j, j < 4 → V.testBit j = true → bs j < 64) (hbX : ∀ j, j < 4 → X.testBit j = true → (∀ g, g < aC A 0 → (bs j).testBit g = al A S j g) ∧ (bs j).testBit (aC A 0) = true) : ∀ (n k d : Nat) (u : Nat → Nat) (l : List (Nat → Nat)) (h : PH), k + n = 4 → n < d → (∀ j, k ≤ j → j < 4 → V.testBit j = true → X.testBit j = false → u j < aC A 0 ∧ ∀ g, g ≤ aC A 0 → ((bs j).testBit g = true ↔ g = u j)) → okU A u → WFx A R f V w mi (fun j => nI (bs j)) h x v → WAc A S f V h x l → okL A l → WCh A V h x k u → l.length + (ws X (al A S) n k u).length ≤ 5000 → ∃ h', f_X8_choose d N (x + 23) (nI (rkX V k)) (nI (smX A S (aHs A f) 0 + dS A V u w 0 k)) (nI (smX A S (aHs A f) 1 + dS A V u w 1 k)) h = some ((), h') ∧ Wk N A S R f V w mi bs x v (rkX V k) (ws X (al A S) n k u) l h h'
  | 0, k, d, u, l, h, hk, hd, _, ok, wf, wa, okl, wc, hlen => by
    have e : k = 4 := by omega
    subst e
    subst hw
    subst hV
    obtain ⟨d', rfl⟩ : ∃ d', d = d' + 1 := ⟨d - 1, by omega⟩
    have d0 := dS_le hW (noF A S f) u (aWind A (tH S)) 0 4
    have d1 := dS_le hW (noF A S f) u (aWind A (tH S)) 1 4
    have s0 := smX_le A S (aHs A f) 0
    have s1 := smX_le A S (aHs A f) 1
    show ∃ h', f_X8_choose_b (f_X8_choose d' N) N (x + 23) _ _ _ h = _ ∧ _
    unfold f_X8_choose_b
    have L : l.length + 1 ≤ 5000 := hlen
    obtain ⟨h', r1, r2, r3, r4, r5⟩ := c_look (N := N) (by omega) hv hf wR wf wa wc ok okl (by omega)
    rw [ck_p wf.1.1, wf.2.2.2.2.2.2.2.2.1, if_neg (nI_nlt (Nat.le_refl _) (by have := rkX_le (noF A S f) 4; omega)), show (999 : Int32) = nI 999 from rfl, min9 (by omega) (by decide), min9 (by omega) (by decide), leaf_eq hW hT ok f 0, leaf_eq hW hT ok f 1]
    rw [r1, cl_s]
    exact ⟨h', rfl, r2.mono (fun z hz => by unfold wkQ at hz; unfold wkP; omega), r3, r4, fun q _ => by
      have := r5
      rw [show x + 23 + 3 = x + 26 by omega, this]⟩
  | n + 1, k, d, u, l, h, hk, hd, hpin, ok, wf, wa, okl, wc, hlen => by
    have h5 := hW.1.1
    by_cases tk : V.testBit k = true
    · obtain ⟨d', rfl⟩ : ∃ d', d = d' + 1 := ⟨d - 1, by omega⟩
      have r4 := rkX_lt (show k < 4 by omega) tk
      have r44 := rkX_le V 4
      have hwl : w ≤ 9 := by rw [hw]; exact aWind_le hW _
      show ∃ h', f_X8_choose_b (f_X8_choose d' N) N (x + 23) _ _ _ h = _ ∧ _
      unfold f_X8_choose_b
      rw [ck_p wf.1.1, wf.2.2.2.2.2.2.2.2.1, if_pos (nI_lt r4 (by omega))]
      have okun : ∀ g, g ≤ aC A 0 → okU A (va_up u k (un (aC A 0) g)) := fun g hg i hi => by
        by_cases e : i = k
        · rw [e, va_eq]
          unfold un
          by_cases c : g = aC A 0
          · rw [if_pos c]; exact Or.inl rfl
          · rw [if_neg c]; exact Or.inr (by omega)
        · rw [va_ne e]; exact ok i hi
      have hR : ∀ g l h, g ≤ aC A 0 → (bs k).testBit g = true → WFx A R f V w mi (fun j => nI (bs j)) h x v → WAc A S f V h x l → okL A l → WCh A V h x (k + 1) (va_up u k (un (aC A 0) g)) → l.length + (ws X (al A S) n (k + 1) (va_up u k (un (aC A 0) g))).length ≤ 5000 → ∃ h', f_X8_choose d' N (x + 23) (nI (rkX V (k + 1))) (nI ((smX A S (aHs A f) 0 + dS A V u w 0 k) + frc A w 0 g)) (nI ((smX A S (aHs A f) 1 + dS A V u w 1 k) + frc A w 1 g)) h = some ((), h') ∧ Wk N A S R f V w mi bs x v (rkX V (k + 1)) (ws X (al A S) n (k + 1) (va_up u k (un (aC A 0) g))) l h h' := by
        intro g l h hg tg wf wa okl wc hlen
        have key := c_ch hN hv hf hw hW hT wR hV hXV hbs hbX n (k + 1) d' (va_up u k (un (aC A 0) g)) l h (by omega) (by omega) (fun j hj hj4 tj nx => by
          rw [va_ne (by omega)]
          exact hpin j (by omega) hj4 tj nx) (okun g hg) wf wa okl wc hlen
        rw [dS_s tk, dS_s tk, dS_u, dS_u, va_eq, cu_un h5 hg, ← Nat.add_assoc, ← Nat.add_assoc] at key
        exact key
      have okws : ∀ g, g ≤ aC A 0 → (bs k).testBit g = true → okL A (ws X (al A S) n (k + 1) (va_up u k (un (aC A 0) g))) := fun g hg _ => ws_ok hW n (k + 1) _ (by omega) (okun g hg)
      have elist : (cl6 (fun g => (bs k).testBit g) (aC A 0 + 1 - 0) 0).flatMap (fun g => ws X (al A S) n (k + 1) (va_up u k (un (aC A 0) g))) = ws X (al A S) (n + 1) k u := by
        show _ = (if X.testBit k = true then (cl6 (al A S k) 6 0).flatMap (fun f => ws X (al A S) n (k + 1) (va_up u k f)) else ws X (al A S) n (k + 1) u)
        by_cases tx : X.testBit k = true
        · rw [if_pos tx]
          obtain ⟨b1, b2⟩ := hbX k (by omega) tx
          exact cl6_un (F := aC A 0) h5 (q := fun g => (bs k).testBit g) (g := fun f => ws X (al A S) n (k + 1) (va_up u k f)) (al5 A S k) (fun f h1 h2 => al_hi h1 h2) b1 b2 (aC A 0) 0 (by omega)
        · rw [if_neg tx]
          obtain ⟨p1, p2⟩ := hpin k (Nat.le_refl _) (by omega) tk (by simpa using tx)
          have := cl6_pin (F := aC A 0) (i := u k) (by omega) (q := fun g => (bs k).testBit g) (g := fun g => ws X (al A S) n (k + 1) (va_up u k (un (aC A 0) g))) p2 (aC A 0 + 1) 0 (by omega)
          rw [if_pos (Nat.zero_le _)] at this
          have self : va_up u k (un (aC A 0) (u k)) = u := by
            funext i
            unfold va_up un
            by_cases z : i = k
            · rw [if_pos z, if_neg (by omega), z]
            · rw [if_neg z]
          rw [self] at this
          exact this
      have key := c_ch30 (N := N) (S := S) (X := X) (n := n) (u := u) (RR := f_X8_choose d' N) (D0 := smX A S (aHs A f) 0 + dS A V u w 0 k) (D1 := smX A S (aHs A f) 1 + dS A V u w 1 k) hN hv hwl hW (show k < 4 by omega) tk (hbs k (by omega) tk) hR okws N 0 l h (by omega) (by omega) wf wa okl wc (by rw [elist]; exact hlen)
      rw [elist] at key
      exact key
    · have tx : ¬ X.testBit k = true := fun z => tk (hXV k z)
      have e1 : rkX V (k + 1) = rkX V k := by
        show rkX V k + (if V.testBit k = true then 1 else 0) = _
        rw [if_neg tk]
        omega
      have e2 : ∀ b, dS A V u w b (k + 1) = dS A V u w b k := fun b => by
        show fb_sm _ k + (if V.testBit k = true then _ else 0) = _
        rw [if_neg tk]
        rfl
      have e3 : ws X (al A S) (n + 1) k u = ws X (al A S) n (k + 1) u := by
        show (if X.testBit k = true then _ else _) = _
        rw [if_neg tx]
      rw [e3] at hlen ⊢
      have key := c_ch hN hv hf hw hW hT wR hV hXV hbs hbX n (k + 1) d u l h (by omega) (by omega) (fun j hj hj4 tj nx => hpin j (by omega) hj4 tj nx) ok wf wa okl (fun j hj tj => wc j (by
        by_cases z : j = k
        · rw [z] at tj; exact absurd tj tk
        · omega) tj) hlen
      rw [e1, e2, e2] at key
      exact key
end CHO
