/-! Ways: the reference's odometer goes through a list. -/
/-- what a house may burn; 5: none -/
def al (A : AV) (S : AS) (i f : Nat) : Bool := decide (f = 5) || (decide (f < aC A 0) && decide (tL S i = 0 ∧ 0 < tT S (5 * i + f)))
/-- the first from f on that p allows, n steps at most -/
def nxa (p : Nat → Bool) : Nat → Nat → Nat
  | 0, f => f
  | n + 1, f => if p f = true then f else nxa p n (f + 1)
/-- all from f on that p allows, below f + n -/
def cl6 (p : Nat → Bool) : Nat → Nat → List Nat
  | 0, _ => []
  | n + 1, f => if p f = true then f :: cl6 p n (f + 1) else cl6 p n (f + 1)
theorem nxa_le {p : Nat → Bool} : ∀ n f, nxa p n f ≤ f + n
  | 0, _ => Nat.le_refl _
  | n + 1, f => by
    unfold nxa
    split
    · omega
    · have := nxa_le (p := p) n (f + 1)
      omega
theorem nxa_ge {p : Nat → Bool} : ∀ n f, f ≤ nxa p n f
  | 0, _ => Nat.le_refl _
  | n + 1, f => by
    unfold nxa
    split
    · exact Nat.le_refl _
    · have := nxa_ge (p := p) n (f + 1)
      omega
theorem nxa_p {p : Nat → Bool} (h5 : p 5 = true) : ∀ n f, n + f = 5 → p (nxa p n f) = true
  | 0, f, h => by
    show p f = true
    rw [show f = 5 by omega]; exact h5
  | n + 1, f, h => by
    unfold nxa
    split
    · assumption
    · exact nxa_p h5 n (f + 1) (by omega)
theorem cl6_nxa {p : Nat → Bool} (h5 : p 5 = true) : ∀ n f, n + f = 5 → cl6 p (n + 1) f = nxa p n f :: cl6 p (5 - nxa p n f) (nxa p n f + 1)
  | 0, f, h => by
    have e : f = 5 := by omega
    subst e
    show (if p 5 = true then 5 :: cl6 p 0 6 else cl6 p 0 6) = 5 :: cl6 p 0 6
    rw [if_pos h5]
  | n + 1, f, h => by
    show (if p f = true then f :: cl6 p (n + 1) (f + 1) else cl6 p (n + 1) (f + 1)) = _
    unfold nxa
    by_cases c : p f = true
    · rw [if_pos c, if_pos c, show 5 - f = n + 1 by omega]
    · rw [if_neg c, if_neg c]
      exact cl6_nxa h5 n (f + 1) (by omega)
/-- the first way: houses from k on at their first -/
def hdw (X : Nat) (p : Nat → Nat → Bool) (k : Nat) (u : Nat → Nat) : Nat → Nat := fun i => if k ≤ i ∧ i < 4 ∧ X.testBit i = true then nxa (p i) 5 0 else u i
/-- the next way, by a house below m -/
def nf (X : Nat) (p : Nat → Nat → Bool) : Nat → (Nat → Nat) → Bool × (Nat → Nat)
  | 0, u => (false, u)
  | m + 1, u => if X.testBit m = true then (if u m < 5 then (true, va_up u m (nxa (p m) (4 - u m) (u m + 1))) else nf X p m (va_up u m (nxa (p m) 5 0))) else nf X p m u
/-- all ways of the n houses from k on -/
def ws (X : Nat) (p : Nat → Nat → Bool) : Nat → Nat → (Nat → Nat) → List (Nat → Nat)
  | 0, _, u => [u]
  | n + 1, k, u => if X.testBit k = true then (cl6 (p k) 6 0).flatMap (fun f => ws X p n (k + 1) (va_up u k f)) else ws X p n (k + 1) u
def Chn (nw : (Nat → Nat) → Bool × (Nat → Nat)) (E : (Nat → Nat) → Prop) : List (Nat → Nat) → Prop
  | [] => False
  | e :: l => match l with
    | [] => E e
    | v :: _ => nw e = (true, v) ∧ Chn nw E l
theorem Chn.app {nw : (Nat → Nat) → Bool × (Nat → Nat)} {E1 E2 : (Nat → Nat) → Prop} {v : Nat → Nat} {l2 : List (Nat → Nat)} (h2 : Chn nw E2 (v :: l2)) (h : ∀ e, E1 e → nw e = (true, v)) : ∀ l1, Chn nw E1 l1 → Chn nw E2 (l1 ++ v :: l2)
  | [], h1 => h1.elim
  | [e], h1 => ⟨h e h1, h2⟩
  | e :: d :: l, h1 => ⟨h1.1, Chn.app h2 h (d :: l) h1.2⟩
theorem Chn.mono {nw : (Nat → Nat) → Bool × (Nat → Nat)} {E1 E2 : (Nat → Nat) → Prop} (h : ∀ e, E1 e → E2 e) : ∀ l, Chn nw E1 l → Chn nw E2 l
  | [], h1 => h1.elim
  | [e], h1 => h e h1
  | e :: d :: l, h1 => ⟨h1.1, Chn.mono h (d :: l) h1.2⟩
section OD
variable {X : Nat} {p : Nat → Nat → Bool}
theorem hdw_up {k g : Nat} {u : Nat → Nat} : va_up (hdw X p (k + 1) u) k g = hdw X p (k + 1) (va_up u k g) := by
  funext i
  unfold hdw va_up
  by_cases c : i = k
  · rw [if_pos c, if_neg (by omega), if_pos c]
  · rw [if_neg c, if_neg c]
theorem hdw_k {k : Nat} {u : Nat → Nat} (hk : k < 4) (t : X.testBit k = true) : hdw X p k u = va_up (hdw X p (k + 1) u) k (nxa (p k) 5 0) := by
  funext i
  unfold hdw va_up
  by_cases c : i = k
  · subst c
    rw [if_pos ⟨Nat.le_refl _, hk, t⟩, if_pos rfl]
  · rw [if_neg c, ite_i (show (k ≤ i ∧ i < 4 ∧ X.testBit i = true) ↔ (k + 1 ≤ i ∧ i < 4 ∧ X.testBit i = true) from ⟨fun z => ⟨by omega, z.2⟩, fun z => ⟨by omega, z.2⟩⟩)]
theorem hdw_n {k : Nat} {u : Nat → Nat} (t : ¬ X.testBit k = true) : hdw X p k u = hdw X p (k + 1) u := by
  funext i
  unfold hdw
  by_cases c : i = k
  · subst c
    rw [if_neg (fun z => t z.2.2), if_neg (by omega)]
  · rw [ite_i (show (k ≤ i ∧ i < 4 ∧ X.testBit i = true) ↔ (k + 1 ≤ i ∧ i < 4 ∧ X.testBit i = true) from ⟨fun z => ⟨by omega, z.2⟩, fun z => ⟨by omega, z.2⟩⟩)]
theorem vaa {u : Nat → Nat} {k a b : Nat} : va_up (va_up u k a) k b = va_up u k b := by
  funext i
  unfold va_up
  by_cases c : i = k
  · rw [if_pos c, if_pos c]
  · rw [if_neg c, if_neg c, if_neg c]
theorem ws_chn (h5 : ∀ i, p i 5 = true) : ∀ n k u, k + n = 4 → (∃ l, ws X p n k u = hdw X p k u :: l) ∧ Chn (nf X p 4) (fun e => nf X p 4 e = nf X p k (hdw X p k u)) (ws X p n k u)
  | 0, k, u, h => by
    have e : k = 4 := by omega
    subst e
    have : hdw X p 4 u = u := by
      funext i
      unfold hdw
      rw [if_neg (by omega)]
    rw [this]
    exact ⟨⟨[], rfl⟩, rfl⟩
  | n + 1, k, u, h => by
    unfold ws
    by_cases t : X.testBit k = true
    · rw [if_pos t]
      -- the choices from f on
      have inner : ∀ d f, d + f = 5 → (∃ l, (cl6 (p k) (d + 1) f).flatMap (fun f => ws X p n (k + 1) (va_up u k f)) = hdw X p (k + 1) (va_up u k (nxa (p k) d f)) :: l) ∧ Chn (nf X p 4) (fun e => nf X p 4 e = nf X p k (hdw X p k u)) ((cl6 (p k) (d + 1) f).flatMap (fun f => ws X p n (k + 1) (va_up u k f))) := by
        intro d
        induction d using Nat.strongRecOn with
        | ind d ih =>
          intro f hd
          rw [cl6_nxa (h5 k) d f hd, List.flatMap_cons]
          have hg := nxa_le (p := p k) d f
          have hg2 := nxa_ge (p := p k) d f
          generalize nxa (p k) d f = g at hg hg2
          obtain ⟨⟨l1, e1⟩, c1⟩ := ws_chn h5 n (k + 1) (va_up u k g) (by omega)
          have hk : hdw X p (k + 1) (va_up u k g) k = g := by
            unfold hdw
            rw [if_neg (by omega), va_eq]
          have nk : nf X p (k + 1) (hdw X p (k + 1) (va_up u k g)) = if g < 5 then (true, hdw X p (k + 1) (va_up u k (nxa (p k) (4 - g) (g + 1)))) else nf X p k (hdw X p k u) := by
            show (if X.testBit k = true then (if hdw X p (k + 1) (va_up u k g) k < 5 then (true, va_up (hdw X p (k + 1) (va_up u k g)) k (nxa (p k) (4 - hdw X p (k + 1) (va_up u k g) k) (hdw X p (k + 1) (va_up u k g) k + 1))) else nf X p k (va_up (hdw X p (k + 1) (va_up u k g)) k (nxa (p k) 5 0))) else nf X p k (hdw X p (k + 1) (va_up u k g))) = _
            rw [if_pos t, hk, hdw_up, hdw_up, vaa, vaa, hdw_k (by omega) t, hdw_up]
          rw [nk] at c1
          refine ⟨⟨_, by rw [e1]; rfl⟩, ?_⟩
          by_cases g5 : g < 5
          · simp only [if_pos g5] at c1
            obtain ⟨⟨l2, e2⟩, c2⟩ := ih (4 - g) (by omega) (g + 1) (by omega)
            rw [show 4 - g + 1 = 5 - g by omega] at e2 c2
            rw [e2] at c2 ⊢
            exact Chn.app c2 (fun e he => he) _ c1
          · simp only [if_neg g5] at c1
            rw [show 5 - g = 0 by omega]
            show Chn _ _ (ws X p n (k + 1) (va_up u k g) ++ [])
            rw [List.append_nil]
            exact c1
      obtain ⟨⟨l, e⟩, c⟩ := inner 5 0 rfl
      refine ⟨⟨l, ?_⟩, c⟩
      rw [hdw_k (by omega) t, hdw_up]
      exact e
    · rw [if_neg t, hdw_n t]
      obtain ⟨a, b⟩ := ws_chn h5 n (k + 1) u (by omega)
      refine ⟨a, b.mono (fun e he => ?_)⟩
      rw [he]
      show (if X.testBit k = true then _ else nf X p k _) = _
      rw [if_neg t]
theorem cl6_len {p : Nat → Bool} : ∀ n f, (cl6 p n f).length ≤ n
  | 0, _ => Nat.le_refl _
  | n + 1, f => by
    have := cl6_len (p := p) n (f + 1)
    unfold cl6
    split
    · simp; omega
    · omega
theorem fm_len {α β : Type} {g : α → List β} {c : Nat} (h : ∀ a, (g a).length ≤ c) : ∀ l : List α, (l.flatMap g).length ≤ l.length * c
  | [] => by simp
  | a :: l => by
    have := fm_len h l
    have := h a
    rw [List.flatMap_cons, List.length_append, List.length_cons, Nat.succ_mul]
    omega
theorem ws_len : ∀ n k u, (ws X p n k u).length ≤ 6 ^ n
  | 0, _, _ => Nat.le_refl _
  | n + 1, k, u => by
    unfold ws
    split
    · have a := fm_len (g := fun f => ws X p n (k + 1) (va_up u k f)) (fun f => ws_len n (k + 1) (va_up u k f)) (cl6 (p k) 6 0)
      have b := cl6_len (p := p k) 6 0
      have c := Nat.mul_le_mul_right (6 ^ n) b
      rw [Nat.pow_succ, Nat.mul_comm (6 ^ n)]
      omega
    · have a := ws_len n (k + 1) u
      have b : 6 ^ n ≤ 6 ^ (n + 1) := Nat.pow_le_pow_right (by decide) (Nat.le_succ n)
      omega
end OD
/-- the reference's row of ways holds u -/
def WY (h : PH) (y : Nat) (u : Nat → Nat) : Prop := ∀ i, i < 4 → hI h (y + 42) i = nI (u i)
section OM
variable {N y J : Nat} {A : AV} {S : AS}
theorem m_mayBurn {h : PH} (m : MD h y) (hC : MV h y A) (hW : WV A) (rS : RS (hI h (y + 37)) 0 S) (hT : WS A J S) {i f : Nat} (hi : i < 4) (hf : f ≤ 5) : f_X11_mayBurn N y (nI i) (nI f) h = some (yb (al A S i f), h) := by
  have h5 := hW.1.1
  unfold f_X11_mayBurn al
  rw [ite_i (show nI f = 5 ↔ f = 5 from nI_eq (b := 5) (by omega) (by decide))]
  by_cases c : f = 5
  · rw [if_pos c]; simp [c, yb]
  · rw [if_neg c, ck_p m.1, m_isFuel m hC, cl_s]
    by_cases c2 : f < aC A 0
    · rw [yesT (toldI (by omega) c2), if_neg one0, ck_p m.1, m_canBurn m rS hT hi (by omega), cl_s]
      by_cases c3 : tL S i = 0 ∧ 0 < tT S (5 * i + f)
      · rw [yesT c3, if_neg one0]; simp [c2, c3, yb]
      · rw [yesF c3, if_pos rfl]; simp [c, c3, yb]
    · rw [yesF (fun z => c2 (by have := z.2; rw [nI_leI (by omega) (by omega)] at this; omega)), if_pos rfl]; simp [c, c2, yb]
theorem al5 (A : AV) (S : AS) (i : Nat) : al A S i 5 = true := by unfold al; simp
theorem m_fo {h : PH} (m : MD h y) (hC : MV h y A) (hW : WV A) (rS : RS (hI h (y + 37)) 0 S) (hT : WS A J S) {i : Nat} (hi : i < 4) : ∀ (n d f : Nat), d < n → d + f = 5 → f_X11_firstOf_2 N n y (nI i) (nI f) h = some (nI (nxa (al A S i) d f), h)
  | 0, d, f, h1, h2 => by omega
  | n + 1, d, f, h1, h2 => by
    show f_X11_firstOf_2_b N (f_X11_firstOf_2 N n) y _ _ h = _
    unfold f_X11_firstOf_2_b
    rw [ck_p m.1, m_mayBurn m hC hW rS hT hi (by omega), cl_s, ite_i yb0, bd_e, nI_1]
    match d, h1, h2 with
    | 0, h1, h2 =>
      have e : f = 5 := by omega
      subst e
      rw [al5, if_neg (by decide)]
      rfl
    | d + 1, h1, h2 =>
      unfold nxa
      by_cases c : al A S i f = true
      · rw [if_neg (by rw [c]; decide), if_pos c]
      · rw [if_pos (by simpa using c), if_neg c]
        exact m_fo m hC hW rS hT hi n d (f + 1) (by omega) (by omega)
theorem m_firstOf (hN : 10 ≤ N) {h : PH} (m : MD h y) (hC : MV h y A) (hW : WV A) (rS : RS (hI h (y + 37)) 0 S) (hT : WS A J S) {i : Nat} (hi : i < 4) : f_X11_firstOf N y (nI i) h = some (nI (nxa (al A S i) 5 0), h) := m_fo m hC hW rS hT hi N 5 0 (by omega) rfl
theorem m_fw (hN : 10 ≤ N) (hW : WV A) (hT : WS A J S) {X : Nat} (hX : X < 16) : ∀ (n i : Nat) (h : PH), 4 < n + i → i ≤ 4 → MD h y → MV h y A → RS (hI h (y + 37)) 0 S → (∀ k, k < i → hI h (y + 42) k = nI (hdw X (al A S) 0 (fun _ => 5) k)) → ∃ h', f_X11_firstWay_2 N n y (nI X) (nI i) h = some ((), h') ∧ Ex (fun z => z = y + 42) h h' ∧ WY h' y (hdw X (al A S) 0 (fun _ => 5))
  | 0, i, h, h1, h2, _, _, _, _ => by omega
  | n + 1, i, h, h1, h2, m, hC, rS, hv => by
    show ∃ h', f_X11_firstWay_2_b N (f_X11_firstWay_2 N n) y _ _ h = _ ∧ _
    unfold f_X11_firstWay_2_b
    rw [ite_i (show (4 : Int32) ≤ nI i ↔ 4 ≤ i from nI_leI (a := 4) (by omega) (by omega))]
    by_cases c : 4 ≤ i
    · rw [if_pos c]
      exact ⟨h, rfl, Ex.rf, fun k hk => hv k (by omega)⟩
    · have go : ∀ v : Nat, hdw X (al A S) 0 (fun _ => 5) i = v → ∃ h', f_X11_firstWay_30 N (f_X11_firstWay_2 N n) (nI v) (nI i) (y + 42) y (nI X) (nI i) h = some ((), h') ∧ Ex (fun z => z = y + 42) h h' ∧ WY h' y (hdw X (al A S) 0 (fun _ => 5)) := fun v hvv => by
        have x1 : Ex (fun z => z = y + 42) h (sI h (y + 42) i (nI v)) := Ex.sI rfl
        unfold f_X11_firstWay_30
        rw [ck_p (mK_way m), mN_way m, ck_p (nI_ix (by omega) (by decide)), ix_nI (by omega), bd_e, bd_e, nI_1]
        obtain ⟨h', r1, r2, r3⟩ := m_fw hN hW hT hX n (i + 1) (sI h (y + 42) i (nI v)) (by omega) (by omega) (m.sm Sm.sI) (hC.ex x1 (fun z z1 z2 z3 => by omega)) (by rw [hI_sI_ne (by omega)]; exact rS) (fun k hk => by
          rw [hI_sI_eq]
          by_cases e : k = i
          · rw [e, va_eq, hvv]
          · rw [va_ne e]; exact hv k (by omega))
        exact ⟨h', r1, x1.trans r2, r3⟩
      rw [if_neg c, ck_p m.1, mR_way m, rq_s, ite_i (bt_sh1 X hX i (by omega))]
      by_cases t : X.testBit i = true
      · rw [if_pos t, m_firstOf hN m hC hW rS hT (by omega), cl_s]
        exact go _ (if_pos ⟨Nat.zero_le _, by omega, t⟩)
      · rw [if_neg t]
        exact go 5 (if_neg (fun z => t z.2.2))
theorem m_firstWay (hN : 10 ≤ N) {h : PH} (m : MD h y) (hC : MV h y A) (hW : WV A) (rS : RS (hI h (y + 37)) 0 S) (hT : WS A J S) {X : Nat} (hX : X < 16) : ∃ h', f_X11_firstWay N y (nI X) h = some ((), h') ∧ Ex (fun z => z = y + 42) h h' ∧ WY h' y (hdw X (al A S) 0 (fun _ => 5)) :=
  m_fw hN hW hT hX N 0 h (by omega) (by omega) m hC rS (fun k hk => by omega)
theorem m_nw51 {h : PH} (m : MD h y) {K : Nat → Int32 → Int32 → PH → Option (Int32 × PH)} {X k g : Nat} (hk : k < 4) (hg : g ≤ 5) (e : hI h (y + 42) k = nI g) : f_X11_nextWay_51 N K y (nI X) (nI k) h = some (1, h) := by
  unfold f_X11_nextWay_51
  rw [ck_p m.1, mR_way m, rq_s, ck_p (mK_way m), mN_way m, ck_p (nI_ix (by omega) (by decide)), ix_nI (by omega), e, if_neg (show ¬ (5 : Int32) < nI g from nI_nlt (a := 5) hg (by decide))]
theorem m_nwA (hW : WV A) (hT : WS A J S) {X k : Nat} (hk : k < 4) {K : Nat → Int32 → Int32 → PH → Option (Int32 × PH)} {u : Nat → Nat} : ∀ (n d c : Nat) (h : PH), d < n → d + c = 4 → MD h y → MV h y A → RS (hI h (y + 37)) 0 S → WY h y (va_up u k c) → ∃ h', f_X11_nextWay_17 N K n y (nI X) (nI k) h = some (1, h') ∧ Ex (fun z => z = y + 42) h h' ∧ WY h' y (va_up u k (nxa (al A S k) d (c + 1)))
  | 0, d, c, h, h1, h2, _, _, _, _ => by omega
  | n + 1, d, c, h, h1, h2, m, hC, rS, hw => by
    show ∃ h', f_X11_nextWay_17_b N K (f_X11_nextWay_17 N K n) y _ _ h = _ ∧ _
    unfold f_X11_nextWay_17_b
    have ec : hI h (y + 42) k = nI c := by rw [hw k hk, va_eq]
    have j4 : inb (nI k) 4 := nI_ix hk (by decide)
    have xk : ix (nI k) = k := ix_nI (by omega)
    rw [ck_p m.1, mR_way m, rq_s, ck_p (mK_way m), mN_way m, ck_p j4, xk, ec, nI_1, bd_e]
    have x1 : Ex (fun z => z = y + 42) h (sI h (y + 42) k (nI (c + 1))) := Ex.sI rfl
    have e1 : hI (sI h (y + 42) k (nI (c + 1))) (y + 42) k = nI (c + 1) := by rw [hI_sI_eq, va_eq]
    have w1 : WY (sI h (y + 42) k (nI (c + 1))) y (va_up u k (c + 1)) := fun i hi => by
      rw [hI_sI_eq]
      by_cases z : i = k
      · rw [z, va_eq, va_eq]
      · rw [va_ne z, va_ne z, hw i hi, va_ne z]
    have m1 := m.sm x1.1
    have hC1 := hC.ex x1 (fun z z1 z2 z3 => by omega)
    have rS1 : RS (hI (sI h (y + 42) k (nI (c + 1))) (y + 37)) 0 S := rS.ex x1 (by omega)
    generalize sI h (y + 42) k (nI (c + 1)) = g at x1 e1 w1 m1 hC1 rS1
    rw [ck_p m1.1, mR_way m1, rq_s, ck_p (mK_way m1), mN_way m1, ck_p j4, e1, ite_i (show (5 : Int32) ≤ nI (c + 1) ↔ 5 ≤ c + 1 from nI_leI (a := 5) (by decide) (by omega))]
    by_cases c5 : 5 ≤ c + 1
    · have e4 : c = 4 := by omega
      have e0 : d = 0 := by omega
      subst e4
      subst e0
      rw [if_pos c5, m_nw51 m1 hk (by decide) e1]
      exact ⟨g, rfl, x1, w1⟩
    · obtain ⟨d', rfl⟩ : ∃ d', d = d' + 1 := ⟨d - 1, by omega⟩
      rw [if_neg c5, rq_s, ck_p (mK_way m1), mN_way m1, ck_p j4, e1, m_mayBurn m1 hC1 hW rS1 hT hk (by omega), cl_s, ite_i yb0]
      unfold nxa
      by_cases a : al A S k (c + 1) = true
      · rw [if_neg (by rw [a]; decide), if_pos a, m_nw51 m1 hk (by omega) e1]
        exact ⟨g, rfl, x1, w1⟩
      · rw [if_pos (by simpa using a), if_neg a]
        obtain ⟨h', r1, r2, r3⟩ := m_nwA hW hT hk (u := u) n d' (c + 1) g (by omega) (by omega) m1 hC1 rS1 w1
        exact ⟨h', r1, x1.trans r2, r3⟩
theorem m_nwB (hN : 10 ≤ N) (hW : WV A) (hT : WS A J S) {X k : Nat} (hk : k < 4) {K : Nat → Int32 → Int32 → PH → Option (Int32 × PH)} {u : Nat → Nat} (hu : u k = 5) {n : Nat} (hn : 0 < n) {h : PH} (m : MD h y) (hC : MV h y A) (rS : RS (hI h (y + 37)) 0 S) (hw : WY h y u) {R : Bool × (Nat → Nat)} (hK : ∀ g, MD g y → MV g y A → RS (hI g (y + 37)) 0 S → WY g y (va_up u k (nxa (al A S k) 5 0)) → ∃ h', K y (nI X) (nI k + (-1 : Int32)) g = some (yb R.1, h') ∧ Ex (fun z => z = y + 42) g h' ∧ WY h' y R.2) : ∃ h', f_X11_nextWay_17 N K n y (nI X) (nI k) h = some (yb R.1, h') ∧ Ex (fun z => z = y + 42) h h' ∧ WY h' y R.2 := by
  obtain ⟨n, rfl⟩ : ∃ j, n = j + 1 := ⟨n - 1, by omega⟩
  show ∃ h', f_X11_nextWay_17_b N K (f_X11_nextWay_17 N K n) y _ _ h = _ ∧ _
  unfold f_X11_nextWay_17_b f_X11_nextWay_51
  have ec : hI h (y + 42) k = nI 5 := by rw [hw k hk, hu]
  have j4 : inb (nI k) 4 := nI_ix hk (by decide)
  have xk : ix (nI k) = k := ix_nI (by omega)
  rw [ck_p m.1, mR_way m, rq_s, ck_p (mK_way m), mN_way m, ck_p j4, xk, ec, nI_1, bd_e]
  have x1 : Ex (fun z => z = y + 42) h (sI h (y + 42) k (nI (5 + 1))) := Ex.sI rfl
  have e1 : hI (sI h (y + 42) k (nI (5 + 1))) (y + 42) = va_up (hI h (y + 42)) k (nI (5 + 1)) := hI_sI_eq
  have m1 := m.sm x1.1
  have hC1 := hC.ex x1 (fun z z1 z2 z3 => by omega)
  have rS1 : RS (hI (sI h (y + 42) k (nI (5 + 1))) (y + 37)) 0 S := rS.ex x1 (by omega)
  generalize sI h (y + 42) k (nI (5 + 1)) = g at x1 e1 m1 hC1 rS1
  have ek : hI g (y + 42) k = nI (5 + 1) := by rw [e1, va_eq]
  rw [ck_p m1.1, mR_way m1, rq_s, ck_p (mK_way m1), mN_way m1, ck_p j4, ek, if_pos (show (5 : Int32) ≤ nI (5 + 1) by decide), ck_p m1.1, rq_s, ck_p (mK_way m1), mN_way m1, ck_p j4, ek, if_pos (show (5 : Int32) < nI (5 + 1) by decide), rq_s, m_firstOf hN m1 hC1 hW rS1 hT hk, cl_s, ck_p (mK_way m1), mN_way m1, ck_p j4, bd_e]
  have x2 : Ex (fun z => z = y + 42) g (sI g (y + 42) k (nI (nxa (al A S k) 5 0))) := Ex.sI rfl
  obtain ⟨h', r1, r2, r3⟩ := hK (sI g (y + 42) k (nI (nxa (al A S k) 5 0))) (m1.sm x2.1) (hC1.ex x2 (fun z z1 z2 z3 => by omega)) (rS1.ex x2 (by omega)) (fun i hi => by
    rw [hI_sI_eq]
    by_cases z : i = k
    · rw [z, va_eq, va_eq]
    · rw [va_ne z, va_ne z, e1, va_ne z]; exact hw i hi)
  refine ⟨h', ?_, (x1.trans x2).trans r2, r3⟩
  unfold f_X11_nextWay_74
  rw [bd_e]
  exact r1
theorem m_nw2 (hN : 10 ≤ N) (hW : WV A) (hT : WS A J S) {X : Nat} (hX : X < 16) : ∀ (n m : Nat) (h : PH) (u : Nat → Nat), m < n → m ≤ 4 → MD h y → MV h y A → RS (hI h (y + 37)) 0 S → WY h y u → (∀ i, i < 4 → u i ≤ 5) → ∃ h', f_X11_nextWay_2 N n y (nI X) (nI m + (-1 : Int32)) h = some (yb (nf X (al A S) m u).1, h') ∧ Ex (fun z => z = y + 42) h h' ∧ WY h' y (nf X (al A S) m u).2
  | 0, m, h, u, h1, h2, _, _, _, _, _ => by omega
  | n + 1, m, h, u, h1, h2, md, hC, rS, hw, hu => by
    show ∃ h', f_X11_nextWay_2_b N (f_X11_nextWay_2 N n) y _ _ h = _ ∧ _
    unfold f_X11_nextWay_2_b
    match m, h1, h2 with
    | 0, h1, h2 =>
      rw [if_pos (show nI 0 + (-1 : Int32) < 0 by decide)]
      exact ⟨h, rfl, Ex.rf, hw⟩
    | k + 1, h1, h2 =>
      rw [pk_m1, if_neg (nI_pos (by omega)), ite_i (bt_sh X hX k (by omega))]
      show ∃ h', _ = some (yb (if X.testBit k = true then (if u k < 5 then (true, va_up u k (nxa (al A S k) (4 - u k) (u k + 1))) else nf X (al A S) k (va_up u k (nxa (al A S k) 5 0))) else nf X (al A S) k u).1, h') ∧ _ ∧ WY h' y (if X.testBit k = true then (if u k < 5 then (true, va_up u k (nxa (al A S k) (4 - u k) (u k + 1))) else nf X (al A S) k (va_up u k (nxa (al A S k) 5 0))) else nf X (al A S) k u).2
      by_cases t : X.testBit k = true
      · rw [if_neg (by rw [t]; decide)]
        simp only [if_pos t]
        have hk5 := hu k (by omega)
        by_cases c : u k < 5
        · simp only [if_pos c]
          have self : va_up u k (u k) = u := by
            funext i
            unfold va_up
            by_cases z : i = k
            · rw [if_pos z, z]
            · rw [if_neg z]
          exact m_nwA hW hT (by omega) (u := u) N (4 - u k) (u k) h (by omega) (by omega) md hC rS (by rw [self]; exact hw)
        · simp only [if_neg c]
          refine m_nwB (R := nf X (al A S) k (va_up u k (nxa (al A S k) 5 0))) hN hW hT (by omega) (by omega) (by omega) md hC rS hw (fun g a b c d => ?_)
          refine m_nw2 hN hW hT hX n k g _ (by omega) (by omega) a b c d (fun i hi => ?_)
          by_cases z : i = k
          · rw [z, va_eq]
            have := nxa_le (p := al A S k) 5 0
            omega
          · rw [va_ne z]; exact hu i hi
      · rw [if_pos (by simpa using t)]
        simp only [if_neg t]
        obtain ⟨h', r1, r2, r3⟩ := m_nw2 hN hW hT hX n k h u (by omega) (by omega) md hC rS hw hu
        refine ⟨h', ?_, r2, r3⟩
        unfold f_X11_nextWay_74
        rw [bd_e]
        exact r1
theorem m_nextWay (hN : 10 ≤ N) (hW : WV A) (hT : WS A J S) {X : Nat} (hX : X < 16) {h : PH} {u : Nat → Nat} (m : MD h y) (hC : MV h y A) (rS : RS (hI h (y + 37)) 0 S) (hw : WY h y u) (hu : ∀ i, i < 4 → u i ≤ 5) : ∃ h', f_X11_nextWay N y (nI X) h = some (yb (nf X (al A S) 4 u).1, h') ∧ Ex (fun z => z = y + 42) h h' ∧ WY h' y (nf X (al A S) 4 u).2 := by
  have := m_nw2 (N := N) hN hW hT hX N 4 h u (by omega) (by omega) m hC rS hw hu
  rw [show nI 4 + (-1 : Int32) = 3 by decide] at this
  exact this
/-- what a fire of now, or one lit now, gives by a way -/
def gb (A : AV) (S : AS) (u : Nat → Nat) (w b i : Nat) : Nat := if 0 < tL S i ∨ u i = 5 then gv A (tF S i) (tL S i) w b else gv A (u i + 1) (aB A (u i)) w b
/-- the dark or sweet of a flue by a way -/
def sb (A : AV) (S : AS) (u : Nat → Nat) (f b : Nat) : Nat := min (fb_sm (fun i => if aF A i = f then gb A S u (aWind A (tH S)) b i else 0) (aC A 2)) 999
/-- its sign -/
def sbs (A : AV) (S : AS) (u : Nat → Nat) (f : Nat) : Int32 := aSign A (sb A S u f 0) (sb A S u f 1)
def okU (A : AV) (u : Nat → Nat) : Prop := ∀ i, i < 4 → u i = 5 ∨ u i < aC A 0
theorem gb_le (hW : WV A) (u : Nat → Nat) (w b i : Nat) : gb A S u w b i ≤ 999 := by
  unfold gb
  split <;> exact gv_le hW _ _ _ _
theorem WY.ex {P : Nat → Prop} {h h' : PH} {u : Nat → Nat} (e : Ex P h h') (hP : ¬ P (y + 42)) (p : WY h y u) : WY h' y u := fun i hi => by rw [e.2.2.2 _ hP]; exact p i hi
theorem m_givesBy {h : PH} (p : MA N h y A) (rS : RS (hI h (y + 37)) 0 S) (hT : WS A J S) (hJ : J < 2 ^ 30) {u : Nat → Nat} (hw : WY h y u) (ok : okU A u) {i b : Nat} (hi : i < 4) (hb : b < 2) : ∃ h', f_X11_givesBy N y (nI i) (nI b) h = some (nI (gb A S u (aWind A (tH S)) b i), h') ∧ Ex (inM y) h h' := by
  have m := p.1
  have hW := p.2.2.1
  have h5 := hW.1.1
  obtain ⟨hf, f1, f2⟩ := m_fireGives p rS hT hJ hi hb
  have oki := ok i hi
  have hu := hw i hi
  have hh := hT.1
  unfold f_X11_givesBy f_X11_givesBy_18 gb
  rw [ck_p m.1, m_isFire m rS hT hi, cl_s]
  by_cases c : 0 < tL S i
  · rw [yesT c, if_neg one0, ck_p m.1, f1, cl_s, if_pos (Or.inl c)]
    exact ⟨hf, rfl, f2⟩
  · rw [yesF c, if_pos rfl, ck_p m.1, mR_way m, rq_s, ck_p (mK_way m), mN_way m, ck_p (nI_ix (by omega) (by decide)), ix_nI (by omega), hu, ite_i (show nI (u i) = 5 ↔ u i = 5 from nI_eq (b := 5) (by omega) (by decide))]
    by_cases c2 : u i = 5
    · rw [if_pos c2, ck_p m.1, f1, cl_s, if_pos (Or.inr c2)]
      exact ⟨hf, rfl, f2⟩
    · have hlt : u i < aC A 0 := oki.resolve_left c2
      have hB := hW.2.1 (u i) hlt
      obtain ⟨hg, g1, g2⟩ := m_givesIn p (f := u i) (l := aB A (u i)) (t := tH S) hlt hB.2.2.2 (by omega) hb
      rw [if_neg c2, rq_s, ck_p (mK_way m), mN_way m, ck_p (nI_ix (by omega) (by decide)), mR_fuelLong m, rq_s, rq_s, ck_p (mK_way m), mN_way m, ck_p (nI_ix (by omega) (by decide)), ck_p (mK_fuelLong m), mN_fuelLong m, hu, ck_p (nI_ix (by omega) (by decide)), mR_s m, rq_s, ck_p (mK_s m), mN_s m, ck_p (by decide), ix_nI (by omega), (p.2.1.2.1 (u i) hlt).2.2, rS.1, g1, cl_s, if_neg (fun z => z.elim c c2)]
      refine ⟨hg, ?_, g2⟩
      unfold gv
      rw [if_neg (by omega)]
      rfl
theorem m_sbl (hT : WS A J S) (hJ : J < 2 ^ 30) {u : Nat → Nat} (ok : okU A u) {f b : Nat} (hf : f < 1000) (hb : b < 2) : ∀ (n i : Nat) (h : PH), aC A 2 < n + i → i ≤ aC A 2 → MA N h y A → RS (hI h (y + 37)) 0 S → WY h y u → ∃ h', f_X11_smokeBy_5 N n y (nI f) (nI b) (nI (fb_sm (fun i => if aF A i = f then gb A S u (aWind A (tH S)) b i else 0) i)) (nI i) h = some (nI (sb A S u f b), h') ∧ Ex (inM y) h h'
  | 0, i, h, h1, h2, _, _, _ => by omega
  | n + 1, i, h, h1, h2, p, rS, hw => by
    have m := p.1
    have hW := p.2.2.1
    have h4 := hW.1.2.2.1
    have h3 := hW.1.2.1
    have bd : ∀ k, fb_sm (fun i => if aF A i = f then gb A S u (aWind A (tH S)) b i else 0) k ≤ k * 999 := fun k => fb_sm_bound (fun j _ => by
      split
      · exact gb_le hW u _ _ _
      · omega)
    show ∃ h', f_X11_smokeBy_5_b N (f_X11_smokeBy_5 N n) y _ _ _ _ h = _ ∧ _
    unfold f_X11_smokeBy_5_b
    rw [ck_p m.1, mR_valley m, rq_s, ck_p (mK_valley m), mN_valley m, ck_p (by decide), p.2.1.1 2 (by decide), ite_i (nI_leI (by omega) (by omega))]
    by_cases c : aC A 2 ≤ i
    · have e : i = aC A 2 := by omega
      subst e
      rw [if_pos c, show (999 : Int32) = nI 999 from rfl, min9' (by have := bd (aC A 2); omega) (by decide)]
      exact ⟨h, rfl, Ex.rf⟩
    · have fl := hW.2.2.1 i (by omega)
      rw [if_neg c, mR_houseAt m, rq_s, ck_p (mK_houseAt m), mN_houseAt m, ck_p (nI_ix (by omega) (by decide)), ix_nI (by omega), p.2.1.2.2.1 i (by omega), ite_i (nI_eq (by omega) (by omega))]
      unfold f_X11_smokeBy_39
      by_cases e : aF A i = f
      · obtain ⟨g, g1, g2⟩ := m_givesBy p rS hT hJ hw ok (i := i) (b := b) (by omega) hb
        obtain ⟨h', r1, r2⟩ := m_sbl hT hJ ok hf hb n (i + 1) g (by omega) (by omega) (p.ex g2 (fun z z1 z2 z3 => by unfold inM at z3; omega)) (rS.ex g2 (by unfold inM; omega)) (hw.ex g2 (by unfold inM; omega))
        rw [fb_sm_succ, if_pos e] at r1
        rw [if_pos e, g1, cl_s, nI_add, bd_e, bd_e, nI_1]
        exact ⟨h', r1, g2.trans r2⟩
      · obtain ⟨h', r1, r2⟩ := m_sbl hT hJ ok hf hb n (i + 1) h (by omega) (by omega) p rS hw
        rw [fb_sm_succ, if_neg e] at r1
        rw [if_neg e, bd_e, bd_e, nI_1, show ∀ z, nI z + (0 : Int32) = nI (z + 0) from fun z => nI_add z 0]
        exact ⟨h', r1, r2⟩
theorem m_smokeBy (hN : 10 ≤ N) (hT : WS A J S) (hJ : J < 2 ^ 30) {u : Nat → Nat} (ok : okU A u) {f b : Nat} (hf : f < 1000) (hb : b < 2) {h : PH} (p : MA N h y A) (rS : RS (hI h (y + 37)) 0 S) (hw : WY h y u) : ∃ h', f_X11_smokeBy N y (nI f) (nI b) h = some (nI (sb A S u f b), h') ∧ Ex (inM y) h h' :=
  m_sbl hT hJ ok hf hb N 0 h (by have := p.2.2.1.1.2.2.1; omega) (by omega) p rS hw
theorem sb_le (A : AV) (S : AS) (u : Nat → Nat) (f b : Nat) : sb A S u f b ≤ 999 := by unfold sb; omega
theorem m_signBy (hN : 100 ≤ N) (hT : WS A J S) (hJ : J < 2 ^ 30) {u : Nat → Nat} (ok : okU A u) {f : Nat} (hf : f < 1000) {h : PH} (p : MA N h y A) (rS : RS (hI h (y + 37)) 0 S) (hw : WY h y u) : ∃ h', f_X11_signBy N y (nI f) h = some (sbs A S u f, h') ∧ Ex (inM y) h h' := by
  obtain ⟨g, g1, g2⟩ := m_smokeBy (N := N) (by omega) hT hJ ok hf (b := 0) (by decide) p rS hw
  have pg := p.ex g2 (fun z z1 z2 z3 => by unfold inM at z3; omega)
  obtain ⟨g', k1, k2⟩ := m_smokeBy (N := N) (by omega) hT hJ ok hf (b := 1) (by decide) pg (rS.ex g2 (by unfold inM; omega)) (hw.ex g2 (by unfold inM; omega))
  have pg' := pg.ex k2 (fun z z1 z2 z3 => by unfold inM at z3; omega)
  have g1 : f_X11_smokeBy N y (nI f) 0 h = _ := g1
  have k1 : f_X11_smokeBy N y (nI f) 1 g = _ := k1
  refine ⟨g', ?_, g2.trans k2⟩
  unfold f_X11_signBy
  rw [ck_p p.1.1, g1, cl_s, ck_p pg.1.1, k1, cl_s, ck_p pg'.1.1, m_signOf hN pg'.1 pg'.2.1 pg'.2.2.1 (sb_le A S u f 0) (sb_le A S u f 1), cl_s]
  rfl
end OM
