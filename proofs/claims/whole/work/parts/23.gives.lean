/-! What fires give, on the class's side, with what it keeps of it. -/
/-- a worth, held between 0 and 999 -/
def clp (v : Int32) : Nat := min v.toInt.toNat 999
theorem clp_le (v : Int32) : clp v ≤ 999 := by unfold clp; omega
theorem clp_n {n : Nat} (h : n ≤ 999) : clp (nI n) = n := by
  unfold clp
  rw [nI_toInt (by omega)]
  omega
theorem clp_cases (v : Int32) : (v.toInt < 0 ∧ clp v = 0) ∨ (0 ≤ v.toInt ∧ v.toInt ≤ 999 ∧ v = nI (clp v)) ∨ (999 < v.toInt ∧ clp v = 999) := by
  unfold clp
  rcases Int.lt_or_le v.toInt 0 with c | c
  · exact Or.inl ⟨c, by omega⟩
  · rcases Int.lt_or_le 999 v.toInt with c2 | c2
    · exact Or.inr (Or.inr ⟨c2, by omega⟩)
    · refine Or.inr (Or.inl ⟨c, c2, ?_⟩)
      apply Int32.toInt_inj.mp
      rw [nI_toInt (by omega)]
      omega
theorem c_within {N : Nat} {h : PH} (v : Int32) : f_X10_within N v 999 h = some (nI (clp v), h) := by
  unfold f_X10_within
  have h9 : (999 : Int32).toInt = 999 := by decide
  have h0 : (0 : Int32).toInt = 0 := by decide
  congr 2
  rcases clp_cases v with ⟨c, e⟩ | ⟨c, c2, e⟩ | ⟨c, e⟩
  · rw [e, if_neg (show ¬ (999 : Int32) < v by rw [fa_lt, h9]; omega), if_neg (show ¬ (0 : Int32) < v by rw [fa_lt, h0]; omega)]
    rfl
  · rw [if_neg (show ¬ (999 : Int32) < v by rw [fa_lt, h9]; omega), ← e]
    by_cases z : (0 : Int32) < v
    · rw [if_pos z]
    · rw [if_neg z]
      rw [fa_lt, h0] at z
      apply Int32.toInt_inj.mp
      rw [h0]; omega
  · rw [e, if_pos (show (999 : Int32) < v by rw [fa_lt, h9]; omega), if_pos (by decide)]
    rfl
/-- h' is h but for what the valley at a keeps for itself: the waiting rows and the gifts -/
def Gx (a : Nat) (h h' : PH) : Prop := Sm h h' ∧ hz h' = hz h ∧ hJ h' = hJ h ∧ ∀ z, z ≠ a + 13 → z ≠ a + 16 → z ≠ a + 17 → hI h' z = hI h z
theorem Gx.rf {a : Nat} {h : PH} : Gx a h h := ⟨Sm.rfl', rfl, rfl, fun _ _ _ _ => rfl⟩
theorem Gx.trans {a : Nat} {h h1 h2 : PH} (p : Gx a h h1) (q : Gx a h1 h2) : Gx a h h2 := ⟨p.1.trans q.1, q.2.1.trans p.2.1, q.2.2.1.trans p.2.2.1, fun z z1 z2 z3 => (q.2.2.2 z z1 z2 z3).trans (p.2.2.2 z z1 z2 z3)⟩
theorem Gx.row {a : Nat} {h : PH} {b : Nat} {f : Nat → Int32} (hb : b = a + 13 ∨ b = a + 16 ∨ b = a + 17) : Gx a h (sRow h b f) := ⟨Sm.sRow, rfl, rfl, fun z z1 z2 z3 => hI_row_ne (by omega)⟩
/-- the laws of the valley at a: what they are worth is what A says -/
def CL (h : PH) (a : Nat) (A : AV) : Prop := ∃ lg ls : Nat, lg ≤ 1000 ∧ ls ≤ 1000 ∧ hI h (a + 11) 3 = nI lg ∧ hI h (a + 14) 3 = nI ls ∧ (∀ f l w b, f < aC A 0 → l ≤ 9 → w ≤ 9 → b < 2 → aV A f l w b = clp (if lg = 0 then (if b = 0 then nI (aD A f) else nI (aS A f)) else evC (hI h (a + 12)) lg (nI (aD A f)) (nI (aS A f)) (nI w) (nI l) (nI b))) ∧ ∀ d s w, d ≤ 999 → s ≤ 999 → w ≤ 9 → aO A d s w = clp (if ls = 0 then nI d else evC (hI h (a + 15)) ls (nI d) (nI s) (nI w) 0 0)
/-- the kept gifts are right -/
def GM (h : PH) (a : Nat) (A : AV) : Prop := ∀ f l w b, f < aC A 0 → 1 ≤ l → l ≤ 9 → w ≤ 9 → b < 2 → hI h (a + 17) (((f * 10 + l) * 10 + w) * 2 + b) = -1 ∨ hI h (a + 17) (((f * 10 + l) * 10 + w) * 2 + b) = nI (aV A f l w b)
/-- the Valley at a stands for A -/
def VA (h : PH) (a : Nat) (A : AV) : Prop := VL h a ∧ CV h a A ∧ WV A ∧ CL h a A ∧ GM h a A
theorem CV.gx {h h' : PH} {a : Nat} {A : AV} (g : Gx a h h') (p : CV h a A) : CV h' a A := by
  unfold CV at p ⊢
  have e : ∀ k, k ≤ 12 → hI h' (a + k) = hI h (a + k) := fun k hk => g.2.2.2 _ (by omega) (by omega) (by omega)
  have e0 := e 0 (by decide)
  rw [Nat.add_zero] at e0
  rw [e0, e 1 (by decide), e 3 (by decide), e 4 (by decide), e 5 (by decide), e 6 (by decide), e 7 (by decide), e 8 (by decide), e 9 (by decide), e 10 (by decide)]
  exact p
theorem CL.gx {h h' : PH} {a : Nat} {A : AV} (g : Gx a h h') (p : CL h a A) : CL h' a A := by
  unfold CL at p ⊢
  rw [g.2.2.2 (a + 11) (by omega) (by omega) (by omega), g.2.2.2 (a + 12) (by omega) (by omega) (by omega), g.2.2.2 (a + 14) (by omega) (by omega) (by omega), g.2.2.2 (a + 15) (by omega) (by omega) (by omega)]
  exact p
theorem VA.gx {h h' : PH} {a : Nat} {A : AV} (g : Gx a h h') (q : GM h' a A) (p : VA h a A) : VA h' a A := ⟨p.1.sm g.1, p.2.1.gx g, p.2.2.1, p.2.2.2.1.gx g, q⟩
/-- what a fire of fuel F - 1 (0: none) gives -/
def gv (A : AV) (F l w b : Nat) : Nat := if F = 0 ∨ aC A 0 < F ∨ l = 0 then 0 else aV A (F - 1) l w b
theorem gv_le {A : AV} (hW : WV A) (F l w b : Nat) : gv A F l w b ≤ 999 := by
  unfold gv
  split
  · omega
  · exact hW.2.2.2.2.2.2.2.2.1 _ _ _ _
theorem aWind_le {A : AV} (hW : WV A) (t : Nat) : aWind A t ≤ 9 := by
  unfold aWind
  split
  · omega
  · exact hW.2.2.2.2.2.2.2.1 _ (Nat.mod_lt _ (by omega))
theorem gx_ix {f l w b f' l' w' b' : Nat} (h1 : l ≤ 9) (h2 : w ≤ 9) (h3 : b < 2) (h4 : l' ≤ 9) (h5 : w' ≤ 9) (h6 : b' < 2) (e : ((f * 10 + l) * 10 + w) * 2 + b = ((f' * 10 + l') * 10 + w') * 2 + b') : f = f' ∧ l = l' ∧ w = w' ∧ b = b' := by omega
theorem c_isTold {N : Nat} {h : PH} {a n : Nat} (hk : hK h a = 1) (hn : hI h a 3 = nI n) (h1 : n ≤ 1000) : f_X1_isTold N a h = some (yes (0 < n), h) := by
  unfold f_X1_isTold yes
  rw [ck_p hk, hn]
  by_cases c : 0 < n
  · rw [if_neg (nI_nle c (by omega)), if_pos c]
  · rw [if_pos (nI_z c), if_neg c]
section GV
variable {N : Nat} {h : PH} {a : Nat} {A : AV}
theorem c_g133 (p : VA h a A) {f l w b : Nat} (hf : f < aC A 0) (h1 : 1 ≤ l) (hl : l ≤ 9) (hw : w ≤ 9) (hb : b < 2) {v : Int32} (hv : aV A f l w b = clp v) : ∃ h', f_X6_givesOf_133 N v a (nI (((f * 10 + l) * 10 + w) * 2 + b)) h = some (nI (aV A f l w b), h') ∧ Gx a h h' ∧ VA h' a A := by
  obtain ⟨hV, hC, hW, hL, hG⟩ := id p
  have h5 := hW.1.1
  have hi : inb (nI (((f * 10 + l) * 10 + w) * 2 + b)) 1000 := nI_ix (by omega) (by omega)
  have hx : ix (nI (((f * 10 + l) * 10 + w) * 2 + b)) = ((f * 10 + l) * 10 + w) * 2 + b := ix_nI (by omega)
  have g : Gx a h (sI h (a + 17) (((f * 10 + l) * 10 + w) * 2 + b) (nI (clp v))) := Gx.row (Or.inr (Or.inr rfl))
  have e : hI (sI h (a + 17) (((f * 10 + l) * 10 + w) * 2 + b) (nI (clp v))) (a + 17) = va_up (hI h (a + 17)) (((f * 10 + l) * 10 + w) * 2 + b) (nI (clp v)) := hI_row
  have q : GM (sI h (a + 17) (((f * 10 + l) * 10 + w) * 2 + b) (nI (clp v))) a A := by
    intro f' l' w' b' z1 z2 z3 z4 z5
    rw [e]
    unfold va_up
    by_cases c : ((f' * 10 + l') * 10 + w') * 2 + b' = ((f * 10 + l) * 10 + w) * 2 + b
    · obtain ⟨rfl, rfl, rfl, rfl⟩ := gx_ix z3 z4 z5 hl hw hb c
      rw [if_pos rfl]
      exact Or.inr (by rw [hv])
    · rw [if_neg c]
      exact hG f' l' w' b' z1 z2 z3 z4 z5
  refine ⟨_, ?_, g, VA.gx g q p⟩
  unfold f_X6_givesOf_133
  rw [ck_p hV.1, vR_gifts hV, rq_s, c_within, cl_s, ck_p (vK_gifts hV), vN_gifts hV, ck_p hi, bd_e, hx]
  have hV' := hV.sm g.1
  unfold f_X6_givesOf_150
  rw [ck_p hV'.1, vR_gifts hV', rq_s, ck_p (vK_gifts hV'), vN_gifts hV', ck_p hi, hx, e, hv]
  unfold va_up
  rw [if_pos rfl]
theorem c_g93 (hN : 2000 ≤ N) (p : VA h a A) {f l w b : Nat} (hf : f < aC A 0) (h1 : 1 ≤ l) (hl : l ≤ 9) (hw : w ≤ 9) (hb : b < 2) : ∃ h', f_X6_givesOf_93 N (if b = 0 then nI (aD A f) else nI (aS A f)) a (nI f) (nI l) (nI w) (nI b) (nI (((f * 10 + l) * 10 + w) * 2 + b)) h = some (nI (aV A f l w b), h') ∧ Gx a h h' ∧ VA h' a A := by
  obtain ⟨hV, hC, hW, ⟨lg, ls, q1, q2, q3, q4, q5, q6⟩, hG⟩ := id p
  have h5 := hW.1.1
  have e := q5 f l w b hf hl hw hb
  unfold f_X6_givesOf_93
  have k11 : hK h (a + 11) = 1 := hV.gives.1
  have r12 : hR h a 12 = some (a + 11) := by unfold VL at hV; simp only [hV]
  rw [ck_p hV.1, r12, rq_s, ck_p k11, c_isTold k11 q3 q1, cl_s]
  by_cases c : 0 < lg
  · rw [if_neg (show ¬ lg = 0 by omega)] at e
    rw [if_neg (fun z => yes0.mp z c), ck_p hV.1, r12, rq_s, vR_dark hV, rq_s, ck_p (vK_dark hV), vN_dark hV, ck_p (nI_ix (by omega) (by omega)), vR_sweet hV, rq_s, ck_p (vK_sweet hV), vN_sweet hV, ck_p (nI_ix (by omega) (by omega)), ck_p k11, ix_nI (by omega), (hC.2.2.1 f hf).1, (hC.2.2.1 f hf).2.1]
    obtain ⟨r, hr⟩ := c_worth hN q1 hV.gives q3 (nI (aD A f)) (nI (aS A f)) (nI w) (nI l) (nI b)
    rw [hr, cl_s]
    have g : Gx a h (sRow h (a + 11 + 2) r) := Gx.row (Or.inl rfl)
    have q : GM (sRow h (a + 11 + 2) r) a A := by
      unfold GM
      rw [hI_row_ne (by omega)]
      exact hG
    obtain ⟨h', w1, w2, w3⟩ := c_g133 (N := N) (VA.gx g q p) hf h1 hl hw hb e
    exact ⟨h', w1, g.trans w2, w3⟩
  · rw [if_pos (show lg = 0 by omega)] at e
    rw [if_pos (yes0.mpr c)]
    exact c_g133 p hf h1 hl hw hb e
theorem c_givesOf (hN : 2000 ≤ N) (p : VA h a A) {F l w b : Nat} (hF : F ≤ 1000) (hl : l ≤ 9) (hw : w ≤ 9) (hb : b < 2) : ∃ h', f_X6_givesOf N a (nI F + (-1)) (nI l) (nI w) (nI b) h = some (nI (gv A F l w b), h') ∧ Gx a h h' ∧ VA h' a A := by
  obtain ⟨hV, hC, hW, hL, hG⟩ := id p
  have h5 := hW.1.1
  unfold f_X6_givesOf gv
  by_cases c0 : F = 0
  · refine ⟨h, ?_, Gx.rf, p⟩
    rw [c0, if_pos (show nI 0 + (-1) < 0 by decide), if_pos (Or.inl rfl)]
    rfl
  obtain ⟨f, rfl⟩ : ∃ f, F = f + 1 := ⟨F - 1, by omega⟩
  rw [pk_m1, if_neg (nI_pos (by omega))]
  simp only [rq_s, ck_t, bd_e, cl_s, hV.1, vR_many hV, vK_many hV, vN_many hV, vR_gifts hV, vK_gifts hV, vN_gifts hV, hC.1 0 (by decide)]
  rw [ck_p (by decide), ite_i (nI_leI (by omega) (by omega))]
  by_cases c1 : aC A 0 ≤ f
  · refine ⟨h, ?_, Gx.rf, p⟩
    rw [if_pos c1, if_pos (Or.inr (Or.inl (by omega)))]
    rfl
  rw [if_neg c1]
  by_cases c2 : l = 0
  · refine ⟨h, ?_, Gx.rf, p⟩
    rw [c2, if_pos (show nI 0 < 1 by decide), if_pos (Or.inr (Or.inr rfl))]
    rfl
  have ei : ((nI f * (10 : Int32) + nI l) * (10 : Int32) + nI w) * (2 : Int32) + nI b = nI (((f * 10 + l) * 10 + w) * 2 + b) := by
    rw [show (10 : Int32) = nI 10 from rfl, show (2 : Int32) = nI 2 from rfl, pk_mul, nI_add, pk_mul, nI_add, pk_mul, nI_add]
  rw [if_neg (show ¬ nI l < (1 : Int32) from nI_nlt (b := 1) (by omega) (by omega)), if_pos (show nI l ≤ (9 : Int32) from nI_le (b := 9) hl (by decide)), ei, if_neg (nI_pos (by omega)), if_pos (nI_lt (by omega) (by decide)), ck_p (nI_ix (by omega) (by omega)), ix_nI (by omega), if_neg (show ¬ (f + 1 = 0 ∨ aC A 0 < f + 1 ∨ l = 0) by omega), show f + 1 - 1 = f from rfl]
  rcases hG f l w b (by omega) (by omega) hl hw hb with e | e
  · rw [if_pos e]
    have hi : inb (nI f) 5 := nI_ix (by omega) (by omega)
    have hx : ix (nI f) = f := ix_nI (by omega)
    have k := c_g93 hN p (f := f) (by omega) (by omega) hl hw hb
    by_cases b0 : b = 0
    · rw [if_pos (show nI b = 0 by rw [b0]; rfl), vR_dark hV, rq_s, ck_p (vK_dark hV), vN_dark hV, ck_p hi, hx, (hC.2.2.1 f (by omega)).1]
      rw [if_pos b0] at k
      exact k
    · rw [if_neg (nI_ne0 (by omega) (by omega)), vR_sweet hV, rq_s, ck_p (vK_sweet hV), vN_sweet hV, ck_p hi, hx, (hC.2.2.1 f (by omega)).2.1]
      rw [if_neg b0] at k
      exact k
  · have ne : ¬ hI h (a + 17) (((f * 10 + l) * 10 + w) * 2 + b) = (-1 : Int32) := by
      rw [e]
      intro z
      have := congrArg Int32.toInt z
      have q := hW.2.2.2.2.2.2.2.2.1 f l w b
      rw [nI_toInt (by omega), show (-1 : Int32).toInt = -1 by decide] at this
      omega
    rw [if_neg ne]
    refine ⟨h, ?_, Gx.rf, p⟩
    unfold f_X6_givesOf_150
    rw [ck_p hV.1, vR_gifts hV, rq_s, ck_p (vK_gifts hV), vN_gifts hV, ck_p (nI_ix (by omega) (by omega)), ix_nI (by omega), e]
theorem c_sootOf (hN : 2000 ≤ N) (p : VA h a A) {d s w : Nat} (hd : d ≤ 999) (hs : s ≤ 999) (hw : w ≤ 9) : ∃ h', f_X6_sootOf N a (nI d) (nI s) (nI w) h = some (nI (aO A d s w), h') ∧ Gx a h h' ∧ VA h' a A := by
  obtain ⟨hV, hC, hW, ⟨lg, ls, q1, q2, q3, q4, q5, q6⟩, hG⟩ := id p
  have e := q6 d s w hd hs hw
  unfold f_X6_sootOf f_X6_sootOf_26
  have k14 : hK h (a + 14) = 1 := hV.soots.1
  have r13 : hR h a 13 = some (a + 14) := by unfold VL at hV; simp only [hV]
  rw [ck_p hV.1, r13, rq_s, ck_p k14, c_isTold k14 q4 q2, cl_s]
  by_cases c : 0 < ls
  · rw [if_neg (show ¬ ls = 0 by omega)] at e
    rw [if_neg (fun z => yes0.mp z c), ck_p hV.1, r13, rq_s, ck_p k14]
    obtain ⟨r, hr⟩ := c_worth hN q2 hV.soots q4 (nI d) (nI s) (nI w) 0 0
    rw [hr, cl_s, c_within, cl_s, ← e]
    have g : Gx a h (sRow h (a + 14 + 2) r) := Gx.row (Or.inr (Or.inl rfl))
    have q : GM (sRow h (a + 14 + 2) r) a A := by
      unfold GM
      rw [hI_row_ne (by omega)]
      exact hG
    exact ⟨_, rfl, g, VA.gx g q p⟩
  · rw [if_pos (show ls = 0 by omega)] at e
    rw [if_pos (yes0.mpr c), c_within, cl_s, ← e]
    exact ⟨h, rfl, Gx.rf, p⟩
end GV
