/-! The reference's readers. -/
section RM
variable {N : Nat} {h : PH} {y : Nat} {A : AV} {S : AS} {J : Nat}
theorem m_isHouse (m : MD h y) (hC : MV h y A) (v : Int32) : f_X11_isHouse N y v h = some (yes (¬ v < 0 ∧ ¬ nI (aC A 2) ≤ v), h) := by
  unfold f_X11_isHouse yes
  simp only [rq_s, ck_t, bd_e, cl_s, m.1, mR_valley m, mK_valley m, mN_valley m, hC.1 2 (by decide)]
  rw [ck_p (by decide)]
  by_cases c : v < 0
  · rw [if_pos c, if_neg (fun q => q.1 c)]
  · rw [if_neg c]
    by_cases c2 : nI (aC A 2) ≤ v
    · rw [if_pos c2, if_neg (fun q => q.2 c2)]
    · rw [if_neg c2, if_pos ⟨c, c2⟩]
theorem m_isFuel (m : MD h y) (hC : MV h y A) (v : Int32) : f_X11_isFuel N y v h = some (yes (¬ v < 0 ∧ ¬ nI (aC A 0) ≤ v), h) := by
  unfold f_X11_isFuel yes
  simp only [rq_s, ck_t, bd_e, cl_s, m.1, mR_valley m, mK_valley m, mN_valley m, hC.1 0 (by decide)]
  rw [ck_p (by decide)]
  by_cases c : v < 0
  · rw [if_pos c, if_neg (fun q => q.1 c)]
  · rw [if_neg c]
    by_cases c2 : nI (aC A 0) ≤ v
    · rw [if_pos c2, if_neg (fun q => q.2 c2)]
    · rw [if_neg c2, if_pos ⟨c, c2⟩]
theorem m_isFlue (m : MD h y) (hC : MV h y A) (v : Int32) : f_X11_isFlue N y v h = some (yes (¬ v < 0 ∧ ¬ nI (aC A 1) ≤ v), h) := by
  unfold f_X11_isFlue yes
  simp only [rq_s, ck_t, bd_e, cl_s, m.1, mR_valley m, mK_valley m, mN_valley m, hC.1 1 (by decide)]
  rw [ck_p (by decide)]
  by_cases c : v < 0
  · rw [if_pos c, if_neg (fun q => q.1 c)]
  · rw [if_neg c]
    by_cases c2 : nI (aC A 1) ≤ v
    · rw [if_pos c2, if_neg (fun q => q.2 c2)]
    · rw [if_neg c2, if_pos ⟨c, c2⟩]
theorem m_isTold (m : MD h y) (hC : MV h y A) (v : Int32) : f_X11_isTold N y v h = some (yes (¬ v < 0 ∧ ¬ nI (aC A 3) ≤ v), h) := by
  unfold f_X11_isTold yes
  simp only [rq_s, ck_t, bd_e, cl_s, m.1, mR_valley m, mK_valley m, mN_valley m, hC.1 3 (by decide)]
  rw [ck_p (by decide)]
  by_cases c : v < 0
  · rw [if_pos c, if_neg (fun q => q.1 c)]
  · rw [if_neg c]
    by_cases c2 : nI (aC A 3) ≤ v
    · rw [if_pos c2, if_neg (fun q => q.2 c2)]
    · rw [if_neg c2, if_pos ⟨c, c2⟩]
theorem m_windIn (m : MD h y) (hC : MV h y A) (hW : WV A) {t : Nat} (ht : t < 2 ^ 31) : f_X11_windIn N y (nI t) h = some (nI (aWind A t), h) := by
  unfold f_X11_windIn aWind
  have h12 := hW.1.2.2.2.2.2
  simp only [rq_s, ck_t, bd_e, cl_s, m.1, mR_valley m, mK_valley m, mN_valley m, mR_wind m, mK_wind m, mN_wind m, hC.1 5 (by decide)]
  rw [ck_p (by decide), ck_p (by decide)]
  by_cases c : aC A 5 = 0
  · rw [if_pos (show nI (aC A 5) = 0 by rw [c]; rfl), if_pos c]; rfl
  · have hm : t % aC A 5 < aC A 5 := Nat.mod_lt _ (by omega)
    rw [if_neg (nI_ne0 (by omega) (by omega)), ck_p (nI_ne0 (by omega) (by omega)), pk_rem ht (by omega) (by omega), ck_p (nI_ix (by omega) (by omega)), ix_nI (by omega), hC.2.2.2.2.2.2 _ hm, if_neg c]
theorem m_isFire (m : MD h y) (hS : RS (hI h (y + 37)) 0 S) (hW : WS A J S) {i : Nat} (hi : i < 4) : f_X11_isFire N y (nI i) h = some (yes (0 < tL S i), h) := by
  unfold f_X11_isFire yes
  have hl := (hW.2.1 i hi).1
  have e := hS.2.2.1 i hi
  rw [Nat.zero_add] at e
  rw [show (5 : Int32) = nI 5 from rfl, nI_add]
  simp only [rq_s, ck_t, bd_e, cl_s, m.1, mR_s m, mK_s m, mN_s m]
  rw [ck_p (nI_ix (by omega) (by omega)), ix_nI (by omega), e]
  by_cases c : 0 < tL S i
  · rw [if_neg (nI_nle c (by omega)), if_pos c]
  · rw [if_pos (nI_z c), if_neg c]
theorem m_ix (i f : Nat) : ((9 : Int32) + (5 : Int32) * nI i) + nI f = nI (9 + (5 * i + f)) := by
  rw [show (9 : Int32) = nI 9 from rfl, show (5 : Int32) = nI 5 from rfl, pk_mul, nI_add, nI_add, Nat.add_assoc]
theorem m_canBurn (m : MD h y) (hS : RS (hI h (y + 37)) 0 S) (hW : WS A J S) {i f : Nat} (hi : i < 4) (hf : f < 5) : f_X11_canBurn N y (nI i) (nI f) h = some (yes (tL S i = 0 ∧ 0 < tT S (5 * i + f)), h) := by
  unfold f_X11_canBurn
  have ht := hW.2.2.1 (5 * i + f) (by omega)
  have e := hS.2.2.2.1 (5 * i + f) (by omega)
  rw [Nat.zero_add] at e
  simp only [rq_s, ck_t, bd_e, cl_s, m.1, mR_s m, mK_s m, mN_s m, m_isFire (N := N) m hS hW hi, m_ix]
  rw [ck_p (nI_ix (by omega) (by omega)), ix_nI (by omega), e]
  unfold yes
  by_cases c : 0 < tL S i
  · rw [if_pos c, if_neg (by decide), if_neg (by omega)]
  · rw [if_neg c, if_pos rfl]
    by_cases c2 : 0 < tT S (5 * i + f)
    · rw [if_neg (nI_nle c2 (by omega)), if_pos (by omega)]
    · rw [if_pos (nI_z c2), if_neg (by omega)]
theorem bts_succ (p : Nat → Bool) (n : Nat) : bts p (n + 1) = if p n then bts p n + 2 ^ n else bts p n := rfl
theorem bts_or0 (x : Int32) : (x ||| (0 : Int32)) = x := by simp
theorem m_hs (m : MD h y) (hC : MV h y A) (hW : WV A) {f : Nat} (hf : f < 1000) : ∀ (n i : Nat), aC A 2 < n + i → i ≤ aC A 2 → f_X11_housesOf_4 N n y (nI f) (nI (bts (fun i => decide (aF A i = f)) i)) (nI i) h = some (nI (aHs A f), h)
  | 0, i, h1, h2 => by omega
  | n + 1, i, h1, h2 => by
    have hc := hW.1.2.2.1
    have hh : ∀ i, i < aC A 2 → aF A i < 3 := fun i hi => Nat.lt_of_lt_of_le (hW.2.2.1 i hi) hW.1.2.1
    show f_X11_housesOf_4_b N (f_X11_housesOf_4 N n) y _ _ _ h = _
    unfold f_X11_housesOf_4_b
    simp only [rq_s, ck_t, bd_e, cl_s, m.1, mR_valley m, mK_valley m, mN_valley m, mR_houseAt m, mK_houseAt m, mN_houseAt m, hC.1 2 (by decide)]
    rw [ck_p (by decide), ite_i (nI_leI (by omega) (by omega))]
    by_cases c : aC A 2 ≤ i
    · rw [if_pos c, show i = aC A 2 by omega]; rfl
    · rw [if_neg c, ck_p (nI_ix (by omega) (by omega)), ix_nI (by omega), hC.2.2.1 i (by omega)]
      have hi3 := hh i (by omega)
      rw [ite_i (nI_eq (by omega) (by omega))]
      have ih := m_hs m hC hW hf n (i + 1) (by omega) (by omega)
      unfold f_X11_housesOf_32
      simp only [bd_e, nI_1]
      rw [bts_or _ (by omega), bts_or0]
      unfold bts at ih
      by_cases e : aF A i = f
      · rw [if_pos e]
        rw [if_pos (by simpa using e)] at ih
        exact ih
      · rw [if_neg e]
        rw [if_neg (by simpa using e)] at ih
        exact ih
theorem m_housesOf (hN : 100 ≤ N) (m : MD h y) (hC : MV h y A) (hW : WV A) {f : Nat} (hf : f < 1000) : f_X11_housesOf N y (nI f) h = some (nI (aHs A f), h) := m_hs m hC hW hf N 0 (by have := hW.1.2.2.1; omega) (by omega)
theorem m_fr (m : MD h y) (hC : MV h y A) (hW : WV A) (hS : RS (hI h (y + 37)) 0 S) (hT : WS A J S) : ∀ (n i : Nat), aC A 2 < n + i → i ≤ aC A 2 → f_X11_fires_4 N n y (nI (bts (fun i => decide (0 < tL S i)) i)) (nI i) h = some (nI (bts (fun i => decide (0 < tL S i)) (aC A 2)), h)
  | 0, i, h1, h2 => by omega
  | n + 1, i, h1, h2 => by
    have hc := hW.1.2.2.1
    show f_X11_fires_4_b N (f_X11_fires_4 N n) y _ _ h = _
    unfold f_X11_fires_4_b
    simp only [rq_s, ck_t, bd_e, cl_s, m.1, mR_valley m, mK_valley m, mN_valley m, hC.1 2 (by decide)]
    rw [ck_p (by decide), ite_i (nI_leI (by omega) (by omega))]
    by_cases c : aC A 2 ≤ i
    · rw [if_pos c, show i = aC A 2 by omega]
    · rw [if_neg c, m_isFire m hS hT (by omega), cl_s]
      have ih := m_fr m hC hW hS hT n (i + 1) (by omega) (by omega)
      unfold f_X11_fires_30
      simp only [bd_e, nI_1]
      rw [bts_or _ (by omega), bts_or0]
      rw [bts_succ] at ih
      by_cases e : 0 < tL S i
      · rw [if_neg (fun z => yes0.mp z e)]
        rw [if_pos (by simpa using e)] at ih
        exact ih
      · rw [if_pos (yes0.mpr e)]
        rw [if_neg (by simpa using e)] at ih
        exact ih
theorem bts_more {p : Nat → Bool} {n : Nat} : ∀ k, (∀ i, n ≤ i → i < n + k → p i = false) → bts p (n + k) = bts p n
  | 0, _ => rfl
  | k + 1, h => by
    show (if p (n + k) then _ else _) = _
    rw [h (n + k) (by omega) (by omega)]
    exact bts_more k (fun i h1 h2 => h i h1 (by omega))
theorem m_fires (hN : 100 ≤ N) (m : MD h y) (hC : MV h y A) (hW : WV A) (hS : RS (hI h (y + 37)) 0 S) (hT : WS A J S) : f_X11_fires N y h = some (nI (tFires S), h) := by
  have hc := hW.1.2.2.1
  have e : tFires S = bts (fun i => decide (0 < tL S i)) (aC A 2) := by
    unfold tFires
    rw [show (4 : Nat) = aC A 2 + (4 - aC A 2) by omega]
    refine bts_more _ (fun i h1 h2 => ?_)
    have := (hT.2.1 i (by omega)).2.2.2 h1
    simp [this]
  rw [e]
  exact m_fr m hC hW hS hT N 0 (by omega) (by omega)
theorem m_sk (m : MD h y) (hS : RS (hI h (y + 37)) 0 S) : ∀ (n i : Nat), 20 < n + i → i ≤ 20 → f_X11_stocks_4 N n y (nI (fb_sm (tT S) i)) (nI i) h = some (nI (fb_sm (tT S) 20), h)
  | 0, i, h1, h2 => by omega
  | n + 1, i, h1, h2 => by
    show f_X11_stocks_4_b N (f_X11_stocks_4 N n) y _ _ h = _
    unfold f_X11_stocks_4_b
    rw [show (20 : Int32) = nI 20 from rfl, ite_i (nI_leI (by omega) (by omega))]
    by_cases c : 20 ≤ i
    · rw [if_pos c, show i = 20 by omega]
    · have e := hS.2.2.2.1 i (by omega)
      rw [Nat.zero_add] at e
      rw [if_neg c, show (9 : Int32) = nI 9 from rfl, nI_add]
      simp only [rq_s, ck_t, bd_e, cl_s, m.1, mR_s m, mK_s m, mN_s m]
      rw [ck_p (nI_ix (by omega) (by omega)), ix_nI (by omega), e, nI_add, nI_1]
      exact m_sk m hS n (i + 1) (by omega) (by omega)
theorem m_stocks (hN : 100 ≤ N) (m : MD h y) (hS : RS (hI h (y + 37)) 0 S) : f_X11_stocks N y h = some (nI (fb_sm (tT S) 20), h) := m_sk m hS N 0 (by omega) (by omega)
theorem m_sootOfAll (m : MD h y) (hS : RS (hI h (y + 37)) 0 S) : f_X11_sootOfAll N y h = some (nI (fb_sm (tS S) 3), h) := by
  unfold f_X11_sootOfAll
  have e0 : hI h (y + 37) 29 = nI (tS S 0) := hS.2.2.2.2 0 (by decide)
  have e1 : hI h (y + 37) 30 = nI (tS S 1) := hS.2.2.2.2 1 (by decide)
  have e2 : hI h (y + 37) 31 = nI (tS S 2) := hS.2.2.2.2 2 (by decide)
  simp only [rq_s, ck_t, bd_e, cl_s, m.1, mR_s m, mK_s m, mN_s m, e0, e1, e2]
  rw [ck_p (by decide), ck_p (by decide), ck_p (by decide), nI_add, nI_add]
  congr 3
  show _ = 0 + tS S 0 + tS S 1 + tS S 2
  omega
theorem m_within {v a b : Int32} : f_X11_within N v a b h = some (yes (¬ v < a ∧ ¬ b < v), h) := by
  unfold f_X11_within yes
  by_cases c : v < a
  · rw [if_pos c, if_neg (fun q => q.1 c)]
  · rw [if_neg c]
    by_cases c2 : b < v
    · rw [if_pos c2, if_neg (fun q => q.2 c2)]
    · rw [if_neg c2, if_pos ⟨c, c2⟩]
theorem yes_i {p q : Prop} [Decidable p] [Decidable q] (h : p ↔ q) : yes p = yes q := ite_i h
theorem m_sg (m : MD h y) (hC : MV h y A) (hW : WV A) {d s : Nat} (hd : d ≤ 999) (hs : s ≤ 999) : ∀ (n q i : Nat), q < n → q + i = aC A 3 → f_X11_signOf_2 N n y (nI d) (nI s) (nI i) h = some (if aSg A d s q i = aC A 3 then -1 else nI (aSg A d s q i), h)
  | 0, q, i, h1, h2 => by omega
  | n + 1, q, i, h1, h2 => by
    have h6 := hW.1.2.2.2.1
    show f_X11_signOf_2_b N (f_X11_signOf_2 N n) y _ _ _ h = _
    unfold f_X11_signOf_2_b
    simp only [rq_s, ck_t, bd_e, cl_s, m.1, mR_valley m, mK_valley m, mN_valley m, mR_signs m, mK_signs m, mN_signs m, hC.1 3 (by decide)]
    rw [ck_p (by decide), ite_i (nI_leI (by omega) (by omega))]
    match q, h1, h2 with
    | 0, h1, h2 => rw [if_pos (by omega)]; unfold aSg; rw [if_pos rfl]
    | q + 1, h1, h2 =>
      have r0 : aR A (4 * i) ≤ 999 := aR_le hW (k := i) (by omega) (j := 0) (by omega)
      have r1 := aR_le hW (k := i) (by omega) (j := 1) (by omega)
      have r2 := aR_le hW (k := i) (by omega) (j := 2) (by omega)
      have r3 := aR_le hW (k := i) (by omega) (j := 3) (by omega)
      have w : ∀ v a b : Nat, v ≤ 999 → a ≤ 999 → b ≤ 999 → f_X11_within N (nI v) (nI a) (nI b) h = some (yes (a ≤ v ∧ v ≤ b), h) := fun v a b hv ha hb => by
        rw [m_within]
        congr 2
        refine yes_i ?_
        rw [nI_ltI (by omega) (by omega), nI_ltI (by omega) (by omega)]
        omega
      have ih := m_sg m hC hW hd hs n q (i + 1) (by omega) (by omega)
      unfold f_X11_signOf_66
      have i0 : (4 : Int32) * nI i = nI (4 * i) := pk_mul 4 i
      have i2 : nI (4 * i) + (2 : Int32) = nI (4 * i + 2) := nI_add _ 2
      have i3 : nI (4 * i) + (3 : Int32) = nI (4 * i + 3) := nI_add _ 3
      rw [if_neg (by omega)]
      simp only [i0, nI_1, i2, i3, bd_e]
      rw [ck_p (nI_ix (by omega) (by omega)), ck_p (nI_ix (by omega) (by omega)), ix_nI (by omega), ix_nI (by omega), hC.2.2.2.2.1 _ (by omega), hC.2.2.2.2.1 _ (by omega), w d _ _ hd r0 r1, cl_s]
      simp only [rq_s, ck_t, bd_e, cl_s, m.1, mR_signs m, mK_signs m, mN_signs m]
      rw [ck_p (nI_ix (by omega) (by omega)), ck_p (nI_ix (by omega) (by omega)), ix_nI (by omega), ix_nI (by omega), hC.2.2.2.2.1 _ (by omega), hC.2.2.2.2.1 _ (by omega), w s _ _ hs r2 r3, cl_s]
      by_cases c : aR A (4 * i) ≤ d ∧ d ≤ aR A (4 * i + 1)
      · rw [if_neg (fun z => yes0.mp z c)]
        by_cases c2 : aR A (4 * i + 2) ≤ s ∧ s ≤ aR A (4 * i + 3)
        · rw [if_neg (fun z => yes0.mp z c2), show aSg A d s (q + 1) i = i from if_pos ⟨c, c2⟩, if_neg (by omega)]
        · rw [if_pos (yes0.mpr c2), ih, show aSg A d s (q + 1) i = aSg A d s q (i + 1) from if_neg (fun z => c2 z.2)]
      · rw [if_pos (yes0.mpr c), ih, show aSg A d s (q + 1) i = aSg A d s q (i + 1) from if_neg (fun z => c z.1)]
theorem m_signOf (hN : 100 ≤ N) (m : MD h y) (hC : MV h y A) (hW : WV A) {d s : Nat} (hd : d ≤ 999) (hs : s ≤ 999) : f_X11_signOf N y (nI d) (nI s) h = some (aSign A d s, h) := by
  have h6 := hW.1.2.2.2.1
  exact m_sg m hC hW hd hs N (aC A 3) 0 (by omega) (by omega)
end RM
