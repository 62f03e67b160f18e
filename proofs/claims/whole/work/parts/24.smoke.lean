/-! Smoke, signs and soot, on the class's side. -/
/-- a state's cells lie apart from a valley's -/
def Dj (s a : Nat) : Prop := s + 5 ≤ a ∨ a + 18 ≤ s
theorem CS.gx {h h' : PH} {s a : Nat} {S : AS} (d : Dj s a) (g : Gx a h h') (p : CS h s S) : CS h' s S := by
  unfold Dj at d
  unfold CS at p ⊢
  have e : ∀ k, k ≤ 4 → hI h' (s + k) = hI h (s + k) := fun k hk => g.2.2.2 _ (by omega) (by omega) (by omega)
  have e0 := e 0 (by decide)
  rw [Nat.add_zero] at e0
  rw [e0, e 1 (by decide), e 2 (by decide), e 3 (by decide), e 4 (by decide)]
  exact p
theorem bt_sh : ∀ X, X < 16 → ∀ i, i < 4 → (((nI X >>> (nI i &&& 31)) &&& (1 : Int32)) = 0 ↔ X.testBit i = false) := by decide +kernel
/-- the dark or sweet of a set of houses, added up -/
def smk (A : AV) (S : AS) (X w b : Nat) : Nat := fb_sm (fun i => if X.testBit i then gv A (tF S i) (tL S i) w b else 0) 4
/-- ... in the state's own wind, and no more than 999 -/
def smX (A : AV) (S : AS) (X b : Nat) : Nat := min (smk A S X (aWind A (tH S)) b) 999
theorem smk_le {A : AV} (hW : WV A) (S : AS) (X w b n : Nat) : fb_sm (fun i => if X.testBit i then gv A (tF S i) (tL S i) w b else 0) n ≤ n * 999 := fb_sm_bound (fun k _ => by
  split
  · exact gv_le hW _ _ _ _
  · omega)
theorem min9 {z n : Nat} (hz : z < 2 ^ 31) (hn : n < 2 ^ 31) : (if nI n < nI z then nI n else nI z) = nI (min z n) := by
  rw [ite_i (nI_ltI hn hz)]
  by_cases c : n < z
  · rw [if_pos c, Nat.min_eq_right (by omega)]
  · rw [if_neg c, Nat.min_eq_left (by omega)]
section SM
variable {N : Nat} {A : AV} {S : AS} {J s a : Nat}
theorem c_sml (hN : 2000 ≤ N) (d : Dj s a) (hT : WS A J S) {X w b : Nat} (hX : X < 16) (hw : w ≤ 9) (hb : b < 2) : ∀ (n i : Nat) (h : PH), 4 < n + i → i ≤ 4 → VA h a A → ST h s → CS h s S → ∃ h', f_X4_smoke_16 N n s a (nI X) (nI b) (nI w) (nI (fb_sm (fun i => if X.testBit i then gv A (tF S i) (tL S i) w b else 0) i)) (nI i) h = some (nI (min (smk A S X w b) 999), h') ∧ Gx a h h' ∧ VA h' a A
  | 0, i, h, h1, h2, _, _, _ => by omega
  | n + 1, i, h, h1, h2, p, hS, hC => by
    have hW := p.2.2.1
    have bd := smk_le hW S X w b
    show ∃ h', f_X4_smoke_16_b N (f_X4_smoke_16 N n) s a _ _ _ _ _ h = _ ∧ _
    unfold f_X4_smoke_16_b
    rw [show (4 : Int32) = nI 4 from rfl, ite_i (nI_leI (by omega) (by omega))]
    by_cases c : 4 ≤ i
    · have e : i = 4 := by omega
      subst e
      refine ⟨h, ?_, Gx.rf, p⟩
      rw [if_pos c, show (999 : Int32) = nI 999 from rfl, min9 (by have := bd 4; omega) (by decide)]
      rfl
    · rw [if_neg c, ite_i (bt_sh X hX i (by omega))]
      unfold f_X4_smoke_57
      have hl := hT.2.1 i (by omega)
      have h5 := hW.1.1
      by_cases t : X.testBit i = false
      · obtain ⟨h', r1, r2, r3⟩ := c_sml hN d hT hX hw hb n (i + 1) h (by omega) (by omega) p hS hC
        refine ⟨h', ?_, r2, r3⟩
        rw [if_pos t, bd_e, nI_1]
        rw [fb_sm_succ, t] at r1
        exact r1
      · have t' : X.testBit i = true := by simpa using t
        obtain ⟨h1', g1, g2, g3⟩ := c_givesOf hN p (F := tF S i) (l := tL S i) (by omega) hl.1 hw hb
        obtain ⟨h', r1, r2, r3⟩ := c_sml hN d hT hX hw hb n (i + 1) h1' (by omega) (by omega) g3 (hS.sm g2.1) (hC.gx d g2)
        refine ⟨h', ?_, g2.trans r2, r3⟩
        rw [if_neg t]
        simp only [rq_s, ck_t, bd_e, cl_s, hS.1, sR_fuel hS, sK_fuel hS, sN_fuel hS, sR_left hS, sK_left hS, sN_left hS, ck_p p.1.1]
        rw [ck_p (nI_ix (by omega) (by omega)), ck_p (nI_ix (by omega) (by omega)), ix_nI (by omega), hC.2.2.1 i (by omega), hC.2.2.2.1 i (by omega), g1, cl_s, nI_add, nI_1]
        rw [fb_sm_succ, t'] at r1
        exact r1
theorem c_smoke (hN : 2000 ≤ N) (d : Dj s a) {h : PH} (p : VA h a A) (hS : ST h s) (hC : CS h s S) (hT : WS A J S) (hJ : J < 2 ^ 30) {X b : Nat} (hX : X < 16) (hb : b < 2) : ∃ h', f_X4_smoke N s a (nI X) (nI b) h = some (nI (smX A S X b), h') ∧ Gx a h h' ∧ VA h' a A := by
  have hW := p.2.2.1
  have ht := hT.1
  obtain ⟨h', r1, r2, r3⟩ := c_sml hN d hT hX (aWind_le hW (tH S)) hb N 0 h (by omega) (by omega) p hS hC
  refine ⟨h', ?_, r2, r3⟩
  unfold f_X4_smoke
  rw [ck_p hS.1, ck_p p.1.1, hC.1, c_windAt p.1 p.2.1 hW (by omega), cl_s]
  exact r1
theorem aHs_lt {A : AV} (hW : WV A) (f : Nat) : aHs A f < 16 := by
  have := bts_lt (fun i => decide (aF A i = f)) (aC A 2)
  have h2 := hW.1.2.2.1
  have : 2 ^ aC A 2 ≤ 2 ^ 4 := Nat.pow_le_pow_right (by decide) h2
  unfold aHs
  omega
/-- the sign over a flue -/
def sgn (A : AV) (S : AS) (f : Nat) : Int32 := aSign A (smX A S (aHs A f) 0) (smX A S (aHs A f) 1)
theorem smX_le (A : AV) (S : AS) (X b : Nat) : smX A S X b ≤ 999 := by unfold smX; omega
theorem c_signAt (hN : 2000 ≤ N) (d : Dj s a) {h : PH} (p : VA h a A) (hS : ST h s) (hC : CS h s S) (hT : WS A J S) (hJ : J < 2 ^ 30) {f : Nat} (hf : f < 1000) : ∃ h', f_X4_signAt N s a (nI f) h = some (sgn A S f, h') ∧ Gx a h h' ∧ VA h' a A := by
  have hW := p.2.2.1
  obtain ⟨h1, r1, r2, r3⟩ := c_smoke hN d p hS hC hT hJ (aHs_lt hW f) (b := 0) (by decide)
  obtain ⟨h2, t1, t2, t3⟩ := c_smoke hN d r3 (hS.sm r2.1) (hC.gx d r2) hT hJ (aHs_lt hW f) (b := 1) (by decide)
  refine ⟨h2, ?_, r2.trans t2, t3⟩
  have r1 : f_X4_smoke N s a (nI (aHs A f)) 0 h = _ := r1
  have t1 : f_X4_smoke N s a (nI (aHs A f)) 1 h1 = _ := t1
  have b0 := smX_le A S (aHs A f) 0
  have b1 := smX_le A S (aHs A f) 1
  unfold f_X4_signAt
  rw [ck_p p.1.1, c_housesAt (by omega) p.1 p.2.1 hW hf, cl_s, ck_p hS.1, r1, cl_s, ck_p (hS.sm r2.1).1, t1, cl_s, ck_p t3.1.1, c_signOf (by omega) t3.1 t3.2.1 hW (by omega) (by omega), cl_s]
  unfold sgn
  rw [Nat.min_eq_left b0, Nat.min_eq_left b1]
/-- the soot that an hour brings, of a set of houses -/
def soX (A : AV) (S : AS) (X : Nat) : Nat := aO A (smX A S X 0) (smX A S X 1) (aWind A (tH S))
theorem c_sootBy (hN : 2000 ≤ N) (d : Dj s a) {h : PH} (p : VA h a A) (hS : ST h s) (hC : CS h s S) (hT : WS A J S) (hJ : J < 2 ^ 30) {X : Nat} (hX : X < 16) : ∃ h', f_X4_sootBy N s a (nI X) h = some (nI (soX A S X), h') ∧ Gx a h h' ∧ VA h' a A := by
  have hW := p.2.2.1
  have ht := hT.1
  obtain ⟨h1, r1, r2, r3⟩ := c_smoke hN d p hS hC hT hJ hX (b := 0) (by decide)
  obtain ⟨h2, t1, t2, t3⟩ := c_smoke hN d r3 (hS.sm r2.1) (hC.gx d r2) hT hJ hX (b := 1) (by decide)
  have hS2 := (hS.sm r2.1).sm t2.1
  have hC2 := (hC.gx d r2).gx d t2
  obtain ⟨h3, u1, u2, u3⟩ := c_sootOf hN t3 (smX_le A S X 0) (smX_le A S X 1) (aWind_le hW (tH S))
  refine ⟨h3, ?_, (r2.trans t2).trans u2, u3⟩
  have r1 : f_X4_smoke N s a (nI X) 0 h = _ := r1
  have t1 : f_X4_smoke N s a (nI X) 1 h1 = _ := t1
  unfold f_X4_sootBy
  rw [ck_p hS.1, r1, cl_s, ck_p (hS.sm r2.1).1, t1, cl_s, ck_p hS2.1, ck_p t3.1.1, hC2.1, c_windAt t3.1 t3.2.1 hW (by omega), cl_s, ck_p t3.1.1, u1, cl_s]
  rfl
/-- how many flues of the first n show a sign -/
def sgs (A : AV) (S : AS) : Nat → Nat
  | 0 => 0
  | n + 1 => sgs A S n + (if sgn A S n = -1 then 0 else 1)
theorem sgs_le (A : AV) (S : AS) : ∀ n, sgs A S n ≤ n
  | 0 => Nat.le_refl _
  | n + 1 => by
    have := sgs_le A S n
    unfold sgs
    split <;> omega
theorem c_srl (hN : 2000 ≤ N) (d : Dj s a) (hT : WS A J S) (hJ : J < 2 ^ 30) : ∀ (n i : Nat) (h : PH), aC A 1 < n + i → i ≤ aC A 1 → VA h a A → ST h s → CS h s S → ∃ h', f_X4_signsRead_4 N n s a (nI (sgs A S i)) (nI i) h = some (nI (sgs A S (aC A 1)), h') ∧ Gx a h h' ∧ VA h' a A
  | 0, i, h, h1, h2, _, _, _ => by omega
  | n + 1, i, h, h1, h2, p, hS, hC => by
    have hW := p.2.2.1
    have h3 := hW.1.2.1
    obtain ⟨hV, hCv⟩ : VL h a ∧ CV h a A := ⟨p.1, p.2.1⟩
    show ∃ h', f_X4_signsRead_4_b N (f_X4_signsRead_4 N n) s a _ _ h = _ ∧ _
    unfold f_X4_signsRead_4_b
    simp only [rq_s, ck_t, bd_e, cl_s, hV.1, vR_many hV, vK_many hV, vN_many hV, hCv.1 1 (by decide)]
    rw [ck_p (by decide), ite_i (nI_leI (by omega) (by omega))]
    by_cases c : aC A 1 ≤ i
    · refine ⟨h, ?_, Gx.rf, p⟩
      rw [if_pos c, show i = aC A 1 by omega]
    · obtain ⟨h', g1, g2, g3⟩ := c_signAt hN d p hS hC hT hJ (f := i) (by omega)
      obtain ⟨h'', r1, r2, r3⟩ := c_srl hN d hT hJ n (i + 1) h' (by omega) (by omega) g3 (hS.sm g2.1) (hC.gx d g2)
      refine ⟨h'', ?_, g2.trans r2, r3⟩
      rw [if_neg c, ck_p hS.1, g1, cl_s]
      unfold f_X4_signsRead_30
      rw [show sgs A S (i + 1) = sgs A S i + (if sgn A S i = -1 then 0 else 1) from rfl] at r1
      by_cases e : sgn A S i = -1
      · rw [if_pos e, bd_e, bd_e, nI_1, show nI (sgs A S i) + (0 : Int32) = nI (sgs A S i + 0) from nI_add _ 0]
        rw [if_pos e] at r1
        exact r1
      · rw [if_neg e, bd_e, bd_e, nI_1, nI_1]
        rw [if_neg e] at r1
        exact r1
theorem c_signsRead (hN : 2000 ≤ N) (d : Dj s a) {h : PH} (p : VA h a A) (hS : ST h s) (hC : CS h s S) (hT : WS A J S) (hJ : J < 2 ^ 30) : ∃ h', f_X4_signsRead N s a h = some (nI (sgs A S (aC A 1)), h') ∧ Gx a h h' ∧ VA h' a A :=
  c_srl hN d hT hJ N 0 h (by have := p.2.2.1.1.2.1; omega) (by omega) p hS hC
end SM
