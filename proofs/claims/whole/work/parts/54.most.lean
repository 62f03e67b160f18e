/-! The most alike, on the reference's side. -/
def kA (A : AV) (S : AS) (w f : Nat) (u : Nat → Nat) : Nat := if aG A w = 2 then (if sK A S f u = 6 then 0 else sK A S f u + 1) else sb A S u f (aG A w)
/-- how often a key came so far -/
def CNw (key : (Nat → Nat) → Nat) (h : PH) (y : Nat) (l : List (Nat → Nat)) : Prop := ∀ d, d ≤ 1000 → hI h (y + 47) d = nI (cn key d l)
section MO
variable {N y J : Nat} {A : AV} {S : AS} {R : AR}
theorem kA_le (hW : WV A) (w f : Nat) (u : Nat → Nat) : kA A S w f u ≤ 1000 := by
  have h6 := hW.1.2.2.2.1
  unfold kA
  by_cases g : aG A w = 2
  · rw [if_pos g]
    unfold sK
    rcases sgK_c hW (sb A S u f 0) (sb A S u f 1) with ⟨e1, e2⟩ | ⟨k, hk, e1, e2⟩
    · rw [e2, if_pos rfl]; omega
    · rw [e2, if_neg (by omega)]; omega
  · rw [if_neg g]
    have := sb_le A S u f (aG A w)
    omega
theorem kA_s (hW : WV A) {w f : Nat} {u : Nat → Nat} (g : aG A w = 2) : (1 : Int32) + sbs A S u f = nI (kA A S w f u) := by
  have h6 := hW.1.2.2.2.1
  unfold kA sbs sK
  rw [if_pos g]
  rcases sgK_c hW (sb A S u f 0) (sb A S u f 1) with ⟨e1, e2⟩ | ⟨k, hk, e1, e2⟩
  · rw [e1, e2, if_pos rfl]; rfl
  · rw [e1, e2, if_neg (by omega), show (1 : Int32) = nI 1 from rfl, nI_add, Nat.add_comm]
theorem m_ma88 {key : (Nat → Nat) → Nat} {u : Nat → Nat} {l : List (Nat → Nat)} (hl : l.length ≤ 5000) (hk : key u ≤ 1000) {h : PH} (m : MD h y) (hc : CNw key h y l) : ∃ g, (∀ (K : Nat → Int32 → Int32 → Int32 → Int32 → Int32 → PH → Option (Int32 × PH)) (w f X : Int32), f_X11_mostAlike_88 N K (nI (key u)) y w f X (nI (mx key l)) h = f_X11_mostAlike_115 N K y w f X (nI (mx key (u :: l))) g) ∧ Ex (fun z => z = y + 47) h g ∧ CNw key g y (u :: l) := by
  have e1 : cn key (key u) (u :: l) = cn key (key u) l + 1 := by
    show cn key (key u) l + (if key u = key u then 1 else 0) = _
    rw [if_pos rfl]
  have l1 := cn_le (key := key) (d := key u) l
  have l2 := mx_le (key := key) l
  have em : mx key (u :: l) = max (mx key l) (cn key (key u) l + 1) := by rw [← e1]; rfl
  have ji : inb (nI (key u)) 1001 := nI_ix (by omega) (by decide)
  have m' : MD (sI h (y + 47) (key u) (nI (cn key (key u) l + 1))) y := m.sm Sm.sI
  refine ⟨sI h (y + 47) (key u) (nI (cn key (key u) l + 1)), fun K w f X => ?_, Ex.sI rfl, fun d hd => ?_⟩
  · unfold f_X11_mostAlike_88
    rw [ck_p m.1, mR_alike m, rq_s, ck_p (mK_alike m), mN_alike m, ck_p ji, ix_nI (by omega), hc _ hk, nI_1, bd_e, ck_p m'.1, mR_alike m', rq_s, ck_p (mK_alike m'), mN_alike m', ck_p ji, hI_sI_eq, va_eq, bd_e, em]
    congr 1
    rw [ite_i (nI_ltI (by omega) (by omega))]
    by_cases c : mx key l < cn key (key u) l + 1
    · rw [if_pos c, Nat.max_eq_right (by omega)]
    · rw [if_neg c, Nat.max_eq_left (by omega)]
  · rw [hI_sI_eq]
    by_cases c : d = key u
    · rw [c, va_eq, e1]
    · have : cn key d (u :: l) = cn key d l := by
        show cn key d l + (if key u = d then 1 else 0) = _
        rw [if_neg (fun z => c z.symm)]
        rfl
      rw [va_ne c, this]
      exact hc d hd
theorem CNw.ex {key : (Nat → Nat) → Nat} {l : List (Nat → Nat)} {P : Nat → Prop} {h h' : PH} (e : Ex P h h') (hP : ¬ P (y + 47)) (c : CNw key h y l) : CNw key h' y l := fun d hd => by rw [e.2.2.2 _ hP]; exact c d hd
/-- one way is looked at, and the next one comes -/
theorem m_mab (hN : 100 ≤ N) (hT : WS A J S) (hJ : J < 2 ^ 30) {X w f : Nat} (hw8 : w < aC A 4) (hf : f < aC A 1) (hX : X < 16) (hW : WV A) (wR : WR A R) (u : Nat → Nat) (l : List (Nat → Nat)) (h : PH) (oku : okU A u) (hl : l.length ≤ 5000) (p : MA N h y A) (rS : RS (hI h (y + 37)) 0 S) (hw : WY h y u) (rR : RR h y 0 R) (hal : CNw (kA A S w f) h y l) : ∃ g, (∀ n, f_X11_mostAlike_45 N (n + 1) y (nI w) (nI f) (nI X) (nI (mx (kA A S w f) l)) 1 h = f_X11_mostAlike_45 N n y (nI w) (nI f) (nI X) (nI (mx (kA A S w f) (if okA A S R u = true then u :: l else l))) (yb (nf X (al A S) 4 u).1) g) ∧ Ex (lwP y) h g ∧ WY g y (nf X (al A S) 4 u).2 ∧ MA N g y A ∧ RS (hI g (y + 37)) 0 S ∧ RR g y 0 R ∧ CNw (kA A S w f) g y (if okA A S R u = true then u :: l else l) := by
  have m := p.1
  have h5 := hW.1.1
  have h3 := hW.1.2.1
  have h8 := hW.1.2.2.2.2.1
  have hg := hW.2.2.2.2.2.2.1 w hw8
  obtain ⟨g1, r1, r2⟩ := m_isAllSeen (N := N) hN hT hJ oku wR p rS hw rR
  have p1 := p.ex r2 (fun z z1 z2 z3 => by unfold inM at z3; omega)
  have rS1 := rS.ex r2 (by unfold inM; omega)
  have w1 : WY g1 y u := hw.ex r2 (by unfold inM; omega)
  have rR1 : RR g1 y 0 R := rR.ex r2 (fun z z1 z2 z3 => by unfold inM at z3; omega)
  have al1 : CNw (kA A S w f) g1 y l := hal.ex r2 (by unfold inM; omega)
  -- behind the count
  have nxt : ∀ (l' : List (Nat → Nat)) (g2 : PH), Ex (lwP y) g1 g2 → WY g2 y u → MA N g2 y A → RS (hI g2 (y + 37)) 0 S → RR g2 y 0 R → CNw (kA A S w f) g2 y l' → (∀ n, f_X11_mostAlike_45 N (n + 1) y (nI w) (nI f) (nI X) (nI (mx (kA A S w f) l)) 1 h = f_X11_mostAlike_115 N (f_X11_mostAlike_45 N n) y (nI w) (nI f) (nI X) (nI (mx (kA A S w f) l')) g2) → ∃ g, (∀ n, f_X11_mostAlike_45 N (n + 1) y (nI w) (nI f) (nI X) (nI (mx (kA A S w f) l)) 1 h = f_X11_mostAlike_45 N n y (nI w) (nI f) (nI X) (nI (mx (kA A S w f) l')) (yb (nf X (al A S) 4 u).1) g) ∧ Ex (lwP y) h g ∧ WY g y (nf X (al A S) 4 u).2 ∧ MA N g y A ∧ RS (hI g (y + 37)) 0 S ∧ RR g y 0 R ∧ CNw (kA A S w f) g y l' := fun l' g2 e2 w2 p2 rS2 rR2 al2 hs => by
    obtain ⟨g3, s1, s2, s3⟩ := m_nextWay (N := N) (by omega) hW hT hX p2.1 p2.2.1 rS2 w2 (fun j hj => by have := oku j hj; omega)
    refine ⟨g3, fun n => ?_, ((Ex.mono (Q := lwP y) r2 (fun z hz => Or.inr (Or.inr (Or.inr hz)))).trans e2).trans (Ex.mono (Q := lwP y) s2 (fun z hz => Or.inl hz)), s3, p2.ex s2 (fun z z1 z2 z3 => by omega), rS2.ex s2 (by omega), rR2.ex s2 (fun z z1 z2 z3 => by omega), al2.ex s2 (by omega)⟩
    rw [hs n]
    unfold f_X11_mostAlike_115
    rw [ck_p p2.1.1, s1, cl_s]
  by_cases o : okA A S R u = true
  · rw [if_pos o]
    have sg : hI g1 (y + 10) w = nI (aG A w) := p1.2.1.2.2.2.2.2.1 w hw8
    have ji : inb (nI w) 8 := nI_ix (by omega) (by decide)
    have xi : ix (nI w) = w := ix_nI (by omega)
    have g2I : nI (aG A w) = 2 ↔ aG A w = 2 := nI_eq (b := 2) (by omega) (by decide)
    obtain ⟨g2, q1, q2⟩ : ∃ g2, (∀ n, f_X11_mostAlike_45 N (n + 1) y (nI w) (nI f) (nI X) (nI (mx (kA A S w f) l)) 1 h = f_X11_mostAlike_88 N (f_X11_mostAlike_45 N n) (nI (kA A S w f u)) y (nI w) (nI f) (nI X) (nI (mx (kA A S w f) l)) g2) ∧ Ex (inM y) g1 g2 := by
      by_cases g : aG A w = 2
      · obtain ⟨g2, s1, s2⟩ := m_signBy (N := N) hN hT hJ oku (f := f) (by omega) p1 rS1 w1
        refine ⟨g2, fun n => ?_, s2⟩
        show f_X11_mostAlike_45_b N (f_X11_mostAlike_45 N n) y _ _ _ _ _ h = _
        unfold f_X11_mostAlike_45_b
        rw [if_neg one0, ck_p m.1, r1, cl_s, if_neg (by rw [o]; decide), ck_p p1.1.1, mR_sight p1.1, rq_s, ck_p (mK_sight p1.1), mN_sight p1.1, ck_p ji, xi, sg, if_pos (g2I.mpr g), s1, cl_s, kA_s hW g]
      · obtain ⟨g2, s1, s2⟩ := m_smokeBy (N := N) (by omega) hT hJ oku (f := f) (b := aG A w) (by omega) (by omega) p1 rS1 w1
        have ek : kA A S w f u = sb A S u f (aG A w) := by unfold kA; rw [if_neg g]
        refine ⟨g2, fun n => ?_, s2⟩
        show f_X11_mostAlike_45_b N (f_X11_mostAlike_45 N n) y _ _ _ _ _ h = _
        unfold f_X11_mostAlike_45_b
        rw [if_neg one0, ck_p m.1, r1, cl_s, if_neg (by rw [o]; decide), ck_p p1.1.1, mR_sight p1.1, rq_s, ck_p (mK_sight p1.1), mN_sight p1.1, ck_p ji, xi, sg, if_neg (fun z => g (g2I.mp z)), rq_s, ck_p (mK_sight p1.1), mN_sight p1.1, ck_p ji, sg, s1, cl_s, ek]
    have p2 := p1.ex q2 (fun z z1 z2 z3 => by unfold inM at z3; omega)
    have rS2 := rS1.ex q2 (by unfold inM; omega)
    have w2 : WY g2 y u := w1.ex q2 (by unfold inM; omega)
    have rR2 : RR g2 y 0 R := rR1.ex q2 (fun z z1 z2 z3 => by unfold inM at z3; omega)
    have al2 := al1.ex q2 (by unfold inM; omega)
    obtain ⟨g3, t1, t2, t3⟩ := m_ma88 (N := N) (u := u) hl (kA_le hW w f u) p2.1 al2
    exact nxt (u :: l) g3 ((Ex.mono (Q := lwP y) q2 (fun z hz => Or.inr (Or.inr (Or.inr hz)))).trans (Ex.mono (Q := lwP y) t2 (fun z hz => Or.inr (Or.inr (Or.inl hz))))) (w2.ex t2 (by omega)) (p2.ex t2 (fun z z1 z2 z3 => by omega)) (rS2.ex t2 (by omega)) (rR2.ex t2 (fun z z1 z2 z3 => by omega)) t3 (fun n => by rw [q1 n, t1])
  · rw [if_neg o]
    refine nxt l g1 Ex.rf w1 p1 rS1 rR1 al1 (fun n => ?_)
    show f_X11_mostAlike_45_b N (f_X11_mostAlike_45 N n) y _ _ _ _ _ h = _
    unfold f_X11_mostAlike_45_b
    rw [if_neg one0, ck_p m.1, r1, cl_s, if_pos (show yb (okA A S R u) = 0 by rw [show okA A S R u = false by simpa using o]; rfl)]
theorem m_ma (hN : 100 ≤ N) (hT : WS A J S) (hJ : J < 2 ^ 30) {X w f : Nat} (hw8 : w < aC A 4) (hf : f < aC A 1) (hX : X < 16) (hW : WV A) (wR : WR A R) : ∀ (L : List (Nat → Nat)) (u : Nat → Nat) (l : List (Nat → Nat)) (n : Nat) (h : PH), Chn (nf X (al A S) 4) (fun e => (nf X (al A S) 4 e).1 = false) (u :: L) → L.length + 1 < n → okL A (u :: L) → l.length + L.length ≤ 4000 → MA N h y A → RS (hI h (y + 37)) 0 S → WY h y u → RR h y 0 R → CNw (kA A S w f) h y l → ∃ h', f_X11_mostAlike_45 N n y (nI w) (nI f) (nI X) (nI (mx (kA A S w f) l)) 1 h = some (nI (mx (kA A S w f) (takeL (okA A S R) (u :: L) l)), h') ∧ Ex (lwP y) h h' ∧ MA N h' y A ∧ RS (hI h' (y + 37)) 0 S ∧ RR h' y 0 R
  | [], u, l, n, h, hc, hn, ok, hl, p, rS, hw, rR, hal => by
    obtain ⟨n, rfl⟩ : ∃ k, n = k + 1 + 1 := ⟨n - 2, by rw [List.length_nil] at hn; omega⟩
    obtain ⟨g, g1, g2, g3, g4, g5, g6, g7⟩ := m_mab hN hT hJ hw8 hf hX hW wR u l h (ok u List.mem_cons_self) (by omega) p rS hw rR hal
    have hc : (nf X (al A S) 4 u).1 = false := hc
    rw [hc] at g1
    refine ⟨g, ?_, g2, g4, g5, g6⟩
    rw [g1 (n + 1)]
    show f_X11_mostAlike_45_b N (f_X11_mostAlike_45 N n) y _ _ _ _ _ g = _
    unfold f_X11_mostAlike_45_b
    rw [if_pos (show yb false = 0 from rfl)]
    rfl
  | v :: L, u, l, n, h, hc, hn, ok, hl, p, rS, hw, rR, hal => by
    obtain ⟨n, rfl⟩ : ∃ k, n = k + 1 := ⟨n - 1, by omega⟩
    rw [List.length_cons] at hn hl
    obtain ⟨g, g1, g2, g3, g4, g5, g6, g7⟩ := m_mab hN hT hJ hw8 hf hX hW wR u l h (ok u List.mem_cons_self) (by omega) p rS hw rR hal
    have hc1 : nf X (al A S) 4 u = (true, v) := hc.1
    rw [hc1] at g1 g3
    have li := len_if (okA A S R u) u l
    obtain ⟨h', t1, t2, t3, t4, t5⟩ := m_ma hN hT hJ hw8 hf hX hW wR L v (if okA A S R u = true then u :: l else l) n g hc.2 (by omega) (fun z hz => ok z (List.mem_cons_of_mem _ hz)) (by omega) g4 g5 g3 g6 g7
    exact ⟨h', by rw [g1 n]; exact t1, g2.trans t2, t3, t4, t5⟩
theorem m_maz {w f X : Int32} : ∀ (n i : Nat) (h : PH), 1001 < n + i → i ≤ 1001 → MD h y → (∀ j, j < i → hI h (y + 47) j = 0) → ∃ g, f_X11_mostAlike_15 N n y w f X 0 (nI i) h = (cl (f_X11_firstWay N y X g) fun r2 h3 => f_X11_mostAlike_45 N N y w f X 0 1 h3) ∧ Ex (fun z => z = y + 47) h g ∧ ∀ j, j < 1001 → hI g (y + 47) j = 0
  | 0, i, h, h1, h2, _, _ => by omega
  | n + 1, i, h, h1, h2, m, hz => by
    show ∃ g, f_X11_mostAlike_15_b N (f_X11_mostAlike_15 N n) y _ _ _ _ _ h = _ ∧ _
    unfold f_X11_mostAlike_15_b
    rw [ite_i (show (1001 : Int32) ≤ nI i ↔ 1001 ≤ i from nI_leI (a := 1001) (by decide) (by omega))]
    by_cases c : 1001 ≤ i
    · rw [if_pos c, ck_p m.1]
      exact ⟨h, rfl, Ex.rf, fun j hj => hz j (by omega)⟩
    · rw [if_neg c, ck_p m.1, mR_alike m, rq_s, ck_p (mK_alike m), mN_alike m, ck_p (nI_ix (by omega) (by decide)), ix_nI (by omega), bd_e, bd_e, nI_1]
      obtain ⟨g, r1, r2, r3⟩ := m_maz (w := w) (f := f) (X := X) n (i + 1) (sI h (y + 47) i 0) (by omega) (by omega) (m.sm Sm.sI) (fun j hj => by
        rw [hI_sI_eq]
        by_cases e : j = i
        · rw [e, va_eq]
        · rw [va_ne e]; exact hz j (by omega))
      exact ⟨g, r1, (Ex.sI (P := fun z => z = y + 47) rfl).trans r2, r3⟩
theorem m_mostAlike (hN : 5000 ≤ N) (hT : WS A J S) (hJ : J < 2 ^ 30) {w f : Nat} (hw8 : w < aC A 4) (hf : f < aC A 1) (wR : WR A R) {h : PH} (p : MA N h y A) (rS : RS (hI h (y + 37)) 0 S) (rR : RR h y 0 R) : ∃ h', f_X11_mostAlike N y (nI w) (nI f) h = some (nI (mx (kA A S w f) (GL A S R)), h') ∧ Ex (lwP y) h h' ∧ MA N h' y A ∧ RS (hI h' (y + 37)) 0 S ∧ RR h' y 0 R := by
  have m := p.1
  have hW := p.2.2.1
  have na := noA_lt (S := S) hW
  obtain ⟨l, el, cl⟩ := GWc A S
  have ll := ws_len (X := noA A S) (p := al A S) 4 0 u5
  have lo : okL A (ws (noA A S) (al A S) 4 0 u5) := ws_ok hW 4 0 _ rfl (fun j _ => Or.inl rfl)
  have e6 : (6 : Nat) ^ 4 = 1296 := rfl
  obtain ⟨g0, q1, q2, q3⟩ := m_maz (N := N) (y := y) (w := nI w) (f := nI f) (X := nI (noA A S)) N 0 h (by omega) (by omega) m (fun j hj => absurd hj (Nat.not_lt_zero j))
  have p0 := p.ex q2 (fun z z1 z2 z3 => by omega)
  have rS0 := rS.ex q2 (by omega)
  have rR0 : RR g0 y 0 R := rR.ex q2 (fun z z1 z2 z3 => by omega)
  obtain ⟨g, r1, r2, r3⟩ := m_firstWay (N := N) (by omega) p0.1 p0.2.1 hW rS0 hT na
  have pg := p0.ex r2 (fun z z1 z2 z3 => by omega)
  have gl : GL A S R = takeL (okA A S R) (hdw (noA A S) (al A S) 0 u5 :: l) [] := by unfold GL; rw [el]
  rw [el] at ll lo
  rw [List.length_cons] at ll
  obtain ⟨h', t1, t2, t3⟩ := m_ma (N := N) (by omega) hT hJ hw8 hf na hW wR l _ [] N g cl (by omega) lo (by rw [List.length_nil]; omega) pg (rS0.ex r2 (by omega)) r3 (rR0.ex r2 (fun z z1 z2 z3 => by omega)) (fun d hd => by rw [r2.2.2.2 _ (by omega)]; exact q3 d (by omega))
  rw [gl]
  refine ⟨h', ?_, ((Ex.mono (Q := lwP y) q2 (fun z hz => Or.inr (Or.inr (Or.inl hz)))).trans (Ex.mono (Q := lwP y) r2 (fun z hz => Or.inl hz))).trans t2, t3⟩
  unfold f_X11_mostAlike
  rw [ck_p m.1, m_allHouses m p.2.1 hW, cl_s, ck_p m.1, m_withoutFire (by omega) m p.2.1 hW rS hT (p2_lt hW), cl_s, wf_all hW]
  refine q1.trans ?_
  rw [r1, cl_s]
  exact t1
end MO
