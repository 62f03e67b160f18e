/-! The class lets an hour pass. -/
/-- the soot of the first i flues has come -/
def sSoot (A : AV) (S : AS) (i : Nat) : AS := (tH S, tF S, tL S, tT S, fun f => if f < i then min (tS S f + soX A S (aHs A f)) 9999 else tS S f)
/-- the fires of the first i houses have burnt an hour -/
def sOut (S : AS) (i : Nat) : AS := (tH S, fun k => if k < i ∧ tL S k ≤ 1 then 0 else tF S k, fun k => if k < i then tL S k - 1 else tL S k, tT S, tS S)
def outs (S : AS) (i : Nat) : Nat := fb_ct (fun k => decide (tL S k = 1)) i
def sLate (S : AS) : AS := (tH S + 1, tF S, tL S, tT S, tS S)
/-- an hour passes -/
def sPass (A : AV) (S : AS) : AS := sLate (sOut (sSoot A S (aC A 1)) 4)
theorem WS.soot {A : AV} {J : Nat} {S : AS} (i : Nat) (p : WS A J S) : WS A J (sSoot A S i) := by
  refine ⟨p.1, p.2.1, p.2.2.1, p.2.2.2.1, fun f hf => ?_⟩
  show (if f < i then min (tS S f + soX A S (aHs A f)) 9999 else tS S f) ≤ 9999
  have := p.2.2.2.2 f hf
  split <;> omega
theorem WS.out {A : AV} {J : Nat} {S : AS} (i : Nat) (p : WS A J S) : WS A J (sOut S i) := by
  refine ⟨p.1, fun k hk => ?_, p.2.2.1, p.2.2.2.1, p.2.2.2.2⟩
  obtain ⟨q1, q2, q3, q4⟩ := p.2.1 k hk
  show (if k < i then tL S k - 1 else tL S k) ≤ 9 ∧ (if k < i ∧ tL S k ≤ 1 then 0 else tF S k) ≤ aC A 0 ∧ ((if k < i then tL S k - 1 else tL S k) = 0 ↔ (if k < i ∧ tL S k ≤ 1 then 0 else tF S k) = 0) ∧ (aC A 2 ≤ k → (if k < i then tL S k - 1 else tL S k) = 0)
  by_cases c : k < i
  · rw [if_pos c]
    by_cases c2 : tL S k ≤ 1
    · rw [if_pos ⟨c, c2⟩]; omega
    · rw [if_neg (fun z => c2 z.2)]; omega
  · rw [if_neg c, if_neg (fun z => c z.1)]
    exact ⟨q1, q2, q3, q4⟩
theorem WS.late {A : AV} {J : Nat} {S : AS} (p : WS A J S) : WS A (J + 1) (sLate S) := ⟨Nat.succ_le_succ p.1, p.2.1, p.2.2.1, p.2.2.2.1, p.2.2.2.2⟩
theorem WS.pass {A : AV} {J : Nat} {S : AS} (p : WS A J S) : WS A (J + 1) (sPass A S) := ((p.soot _).out _).late
theorem CS.same {h : PH} {s : Nat} {S S' : AS} (p : CS h s S) (e : tH S' = tH S) (e1 : ∀ k, k < 4 → tF S' k = tF S k) (e2 : ∀ k, k < 4 → tL S' k = tL S k) (e3 : ∀ k, k < 20 → tT S' k = tT S k) (e4 : ∀ k, k < 3 → tS S' k = tS S k) : CS h s S' := ⟨by rw [e]; exact p.1, fun k hk => by rw [e3 k hk]; exact p.2.1 k hk, fun k hk => by rw [e1 k hk]; exact p.2.2.1 k hk, fun k hk => by rw [e2 k hk]; exact p.2.2.2.1 k hk, fun k hk => by rw [e4 k hk]; exact p.2.2.2.2 k hk⟩
theorem out0F (S : AS) (k : Nat) : tF (sOut S 0) k = tF S k := by
  show (if k < 0 ∧ tL S k ≤ 1 then 0 else tF S k) = tF S k
  exact if_neg (by omega)
theorem out0L (S : AS) (k : Nat) : tL (sOut S 0) k = tL S k := by
  show (if k < 0 then tL S k - 1 else tL S k) = tL S k
  exact if_neg (by omega)
theorem soot0 (A : AV) (S : AS) (k : Nat) : tS (sSoot A S 0) k = tS S k := by
  show (if k < 0 then min (tS S k + soX A S (aHs A k)) 9999 else tS S k) = tS S k
  exact if_neg (by omega)
section PA
variable {N : Nat} {A : AV} {S : AS} {J s a : Nat}
theorem outs_s (S : AS) (i : Nat) : outs S (i + 1) = outs S i + (if tL S i = 1 then 1 else 0) := by
  unfold outs
  rw [fb_ct_succ]
  by_cases c : tL S i = 1
  · rw [if_pos c, if_pos (by simpa using c)]
  · rw [if_neg c, if_neg (by simpa using c)]
theorem c_p51 (hT : WS A J S) : ∀ (n i : Nat) (h : PH), 4 < n + i → i ≤ 4 → ST h s → CS h s (sOut S i) → ∃ h', f_X4_pass_51 N n s (nI (outs S i)) (nI i) h = some (nI (outs S 4), h') ∧ Ex (inS s) h h' ∧ CS h' s (sLate (sOut S 4))
  | 0, i, h, h1, h2, _, _ => by omega
  | n + 1, i, h, h1, h2, hS, hC => by
    show ∃ h', f_X4_pass_51_b N (f_X4_pass_51 N n) s _ _ h = _ ∧ _
    unfold f_X4_pass_51_b
    rw [show (4 : Int32) = nI 4 from rfl, ite_i (nI_leI (by omega) (by omega))]
    by_cases c : 4 ≤ i
    · have e : i = 4 := by omega
      subst e
      rw [if_pos c, ck_p hS.1, bd_e, hC.1, nI_1]
      refine ⟨_, rfl, Ex.sI (by unfold inS; omega), ?_⟩
      refine ⟨?_, fun k hk => ?_, fun k hk => ?_, fun k hk => ?_, fun k hk => ?_⟩
      · rw [hI_sI_eq, va_eq]; rfl
      · rw [hI_sI_ne (by omega)]; exact hC.2.1 k hk
      · rw [hI_sI_ne (by omega)]; exact hC.2.2.1 k hk
      · rw [hI_sI_ne (by omega)]; exact hC.2.2.2.1 k hk
      · rw [hI_sI_ne (by omega)]; exact hC.2.2.2.2 k hk
    · have hi : i < 4 := by omega
      have hl := hT.2.1 i hi
      have el : tL (sOut S i) i = tL S i := if_neg (by omega)
      have ef : tF (sOut S i) i = tF S i := if_neg (by omega)
      rw [if_neg c, ck_p hS.1, c_burns hS hC (hT.out i) hi, cl_s, el]
      unfold f_X4_pass_93
      by_cases b : 0 < tL S i
      · have hi4 : inb (nI i) 4 := nI_ix hi (by omega)
        have hx : ix (nI i) = i := ix_nI (by omega)
        have em : nI (tL S i) - (1 : Int32) = nI (tL S i - 1) := pk_sub (b := 1) (by omega)
        rw [if_neg (fun z => yes0.mp z b), ck_p hS.1, sR_left hS, rq_s, ck_p (sK_left hS), sN_left hS, ck_p hi4, hx, bd_e, hC.2.2.2.1 i hi, el, em]
        have hS2 : ST (sI h (s + 3) i (nI (tL S i - 1))) s := hS.sm Sm.sI
        rw [ck_p hS2.1, sR_left hS2, rq_s, ck_p (sK_left hS2), sN_left hS2, ck_p hi4, hI_sI_eq, va_eq]
        by_cases o : tL S i = 1
        · rw [if_pos (show nI (tL S i - 1) = 0 by rw [o]; rfl), sR_fuel hS2, rq_s, ck_p (sK_fuel hS2), sN_fuel hS2, ck_p hi4, bd_e, bd_e, bd_e, nI_1, nI_1]
          have hC3 : CS (sI (sI h (s + 3) i (nI (tL S i - 1))) (s + 2) i (-1)) s (sOut S (i + 1)) := by
            refine ⟨?_, fun k hk => ?_, fun k hk => ?_, fun k hk => ?_, fun k hk => ?_⟩
            · rw [hI_sI_ne (by omega), hI_sI_ne (by omega)]; exact hC.1
            · rw [hI_sI_ne (by omega), hI_sI_ne (by omega)]; exact hC.2.1 k hk
            · rw [hI_sI_eq, hI_sI_ne (by omega)]
              show _ = nI (if k < i + 1 ∧ tL S k ≤ 1 then 0 else tF S k) + (-1)
              by_cases q : k = i
              · rw [q, va_eq, if_pos (by omega)]; rfl
              · rw [va_ne q, hC.2.2.1 k hk]
                show nI (if k < i ∧ tL S k ≤ 1 then 0 else tF S k) + (-1) = _
                rw [ite_i (show (k < i ∧ tL S k ≤ 1) ↔ (k < i + 1 ∧ tL S k ≤ 1) by omega)]
            · rw [hI_sI_ne (by omega), hI_sI_eq]
              show _ = nI (if k < i + 1 then tL S k - 1 else tL S k)
              by_cases q : k = i
              · rw [q, va_eq, if_pos (by omega)]
              · rw [va_ne q, hC.2.2.2.1 k hk]
                show nI (if k < i then tL S k - 1 else tL S k) = _
                rw [ite_i (show (k < i) ↔ (k < i + 1) by omega)]
            · rw [hI_sI_ne (by omega), hI_sI_ne (by omega)]; exact hC.2.2.2.2 k hk
          obtain ⟨h', r1, r2, r3⟩ := c_p51 hT n (i + 1) _ (by omega) (by omega) (hS2.sm Sm.sI) hC3
          refine ⟨h', ?_, ((Ex.sI (by unfold inS; omega)).trans (Ex.sI (by unfold inS; omega))).trans r2, r3⟩
          rw [outs_s, if_pos o] at r1
          exact r1
        · rw [if_neg (show ¬ nI (tL S i - 1) = 0 from nI_ne0 (by omega) (by omega)), bd_e, nI_1]
          have hC3 : CS (sI h (s + 3) i (nI (tL S i - 1))) s (sOut S (i + 1)) := by
            refine ⟨?_, fun k hk => ?_, fun k hk => ?_, fun k hk => ?_, fun k hk => ?_⟩
            · rw [hI_sI_ne (by omega)]; exact hC.1
            · rw [hI_sI_ne (by omega)]; exact hC.2.1 k hk
            · rw [hI_sI_ne (by omega), hC.2.2.1 k hk]
              show nI (if k < i ∧ tL S k ≤ 1 then 0 else tF S k) + (-1) = nI (if k < i + 1 ∧ tL S k ≤ 1 then 0 else tF S k) + (-1)
              by_cases q : k = i
              · subst q
                rw [if_neg (by omega), if_neg (by omega)]
              · rw [ite_i (show (k < i ∧ tL S k ≤ 1) ↔ (k < i + 1 ∧ tL S k ≤ 1) by omega)]
            · rw [hI_sI_eq]
              show _ = nI (if k < i + 1 then tL S k - 1 else tL S k)
              by_cases q : k = i
              · rw [q, va_eq, if_pos (by omega)]
              · rw [va_ne q, hC.2.2.2.1 k hk]
                show nI (if k < i then tL S k - 1 else tL S k) = _
                rw [ite_i (show (k < i) ↔ (k < i + 1) by omega)]
            · rw [hI_sI_ne (by omega)]; exact hC.2.2.2.2 k hk
          obtain ⟨h', r1, r2, r3⟩ := c_p51 hT n (i + 1) _ (by omega) (by omega) hS2 hC3
          refine ⟨h', ?_, (Ex.sI (by unfold inS; omega)).trans r2, r3⟩
          rw [outs_s, if_neg o] at r1
          exact r1
      · rw [if_pos (yes0.mpr b), bd_e, nI_1]
        have hC3 : CS h s (sOut S (i + 1)) := by
          refine hC.same rfl (fun k hk => ?_) (fun k hk => ?_) (fun _ _ => rfl) (fun _ _ => rfl)
          · show (if k < i + 1 ∧ tL S k ≤ 1 then 0 else tF S k) = (if k < i ∧ tL S k ≤ 1 then 0 else tF S k)
            by_cases q : k = i
            · subst q
              rw [if_pos (by omega), if_neg (by omega)]
              omega
            · rw [ite_i (show (k < i + 1 ∧ tL S k ≤ 1) ↔ (k < i ∧ tL S k ≤ 1) by omega)]
          · show (if k < i + 1 then tL S k - 1 else tL S k) = (if k < i then tL S k - 1 else tL S k)
            by_cases q : k = i
            · subst q
              rw [if_pos (by omega), if_neg (by omega)]
              omega
            · rw [ite_i (show (k < i + 1) ↔ (k < i) by omega)]
        obtain ⟨h', r1, r2, r3⟩ := c_p51 hT n (i + 1) h (by omega) (by omega) hS hC3
        refine ⟨h', ?_, r2, r3⟩
        rw [outs_s, if_neg (by omega)] at r1
        exact r1
/-- rows of a state, and a valley's own -/
def inSV (s a z : Nat) : Prop := inS s z ∨ z = a + 13 ∨ z = a + 16 ∨ z = a + 17
theorem c_p2 (hN : 2000 ≤ N) (d : Dj s a) (hT : WS A J S) (hJ : J < 2 ^ 30) : ∀ (n i : Nat) (h : PH), aC A 1 < n + i → i ≤ aC A 1 → VA h a A → ST h s → CS h s (sSoot A S i) → ∃ h', f_X4_pass_2 N n s a (nI i) h = some (nI (outs S 4), h') ∧ Ex (inSV s a) h h' ∧ VA h' a A ∧ CS h' s (sPass A S)
  | 0, i, h, h1, h2, _, _, _ => by omega
  | n + 1, i, h, h1, h2, p, hS, hC => by
    have hW := p.2.2.1
    have h3 := hW.1.2.1
    obtain ⟨hV, hCv⟩ : VL h a ∧ CV h a A := ⟨p.1, p.2.1⟩
    show ∃ h', f_X4_pass_2_b N (f_X4_pass_2 N n) s a _ h = _ ∧ _
    unfold f_X4_pass_2_b
    rw [ck_p hV.1, vR_many hV, rq_s, ck_p (vK_many hV), vN_many hV, ck_p (by decide), hCv.1 1 (by decide), ite_i (nI_leI (by omega) (by omega))]
    by_cases c : aC A 1 ≤ i
    · have e : i = aC A 1 := by omega
      subst e
      rw [if_pos c]
      have hC0 : CS h s (sOut (sSoot A S (aC A 1)) 0) := hC.same rfl (fun k _ => out0F _ k) (fun k _ => out0L _ k) (fun _ _ => rfl) (fun _ _ => rfl)
      obtain ⟨h', r1, r2, r3⟩ := c_p51 (N := N) (hT.soot (aC A 1)) N 0 h (by omega) (by omega) hS hC0
      refine ⟨h', r1, r2.mono (fun z hz => Or.inl hz), p.ex r2 (fun z z1 z2 z3 => ?_), r3⟩
      unfold inS at z3
      unfold Dj at d
      omega
    · have hi : inb (nI i) 3 := nI_ix (by omega) (by omega)
      have hx : ix (nI i) = i := ix_nI (by omega)
      obtain ⟨h1', g1, g2, g3⟩ := c_sootBy (N := N) hN d p hS hC (hT.soot i) hJ (aHs_lt hW i)
      have g1 : f_X4_sootBy N s a (nI (aHs A i)) h = some (nI (soX A S (aHs A i)), h1') := g1
      have hS1 := hS.sm g2.1
      have hC1 := hC.gx d g2
      have es : tS (sSoot A S i) i = tS S i := if_neg (by omega)
      have b1 := hT.2.2.2.2 i (by omega)
      have b2 : soX A S (aHs A i) ≤ 999 := hW.2.2.2.2.2.2.2.2.2 _ _ _
      rw [if_neg c, ck_p hS.1, sR_soot hS, rq_s, rq_s, ck_p (sK_soot hS), sN_soot hS, ck_p hi, c_housesAt (by omega) hV hCv hW (by omega), cl_s, ck_p hS.1, g1, cl_s, ck_p (sK_soot hS1), sN_soot hS1, ck_p hi, hx, hC.2.2.2.2 i (by omega), es, nI_add, show (9999 : Int32) = nI 9999 from rfl, min9 (by omega) (by decide), bd_e, bd_e, nI_1]
      have hC2 : CS (sI h1' (s + 4) i (nI (min (tS S i + soX A S (aHs A i)) 9999))) s (sSoot A S (i + 1)) := by
        refine ⟨?_, fun k hk => ?_, fun k hk => ?_, fun k hk => ?_, fun k hk => ?_⟩
        · rw [hI_sI_ne (by omega)]; exact hC1.1
        · rw [hI_sI_ne (by omega)]; exact hC1.2.1 k hk
        · rw [hI_sI_ne (by omega)]; exact hC1.2.2.1 k hk
        · rw [hI_sI_ne (by omega)]; exact hC1.2.2.2.1 k hk
        · rw [hI_sI_eq]
          show _ = nI (if k < i + 1 then min (tS S k + soX A S (aHs A k)) 9999 else tS S k)
          by_cases q : k = i
          · rw [q, va_eq, if_pos (by omega)]
          · rw [va_ne q, hC1.2.2.2.2 k hk]
            show nI (if k < i then min (tS S k + soX A S (aHs A k)) 9999 else tS S k) = _
            rw [ite_i (show (k < i) ↔ (k < i + 1) by omega)]
      have x2 : Ex (inS s) h1' (sI h1' (s + 4) i (nI (min (tS S i + soX A S (aHs A i)) 9999))) := Ex.sI (by unfold inS; omega)
      obtain ⟨h', r1, r2, r3, r4⟩ := c_p2 hN d hT hJ n (i + 1) _ (by omega) (by omega) (g3.ex x2 (fun z z1 z2 z3 => by unfold inS at z3; unfold Dj at d; omega)) (hS1.sm Sm.sI) hC2
      exact ⟨h', r1, ((g2.ex.mono (fun z hz => Or.inr hz)).trans (x2.mono (fun z hz => Or.inl hz))).trans r2, r3, r4⟩
theorem c_pass (hN : 2000 ≤ N) (d : Dj s a) {h : PH} (p : VA h a A) (hS : ST h s) (hC : CS h s S) (hT : WS A J S) (hJ : J < 2 ^ 30) : ∃ h', f_X4_pass N s a h = some (nI (outs S 4), h') ∧ Ex (inSV s a) h h' ∧ VA h' a A ∧ CS h' s (sPass A S) :=
  c_p2 hN d hT hJ N 0 h (by have := p.2.2.1.1.2.1; omega) (by omega) p hS (hC.same rfl (fun _ _ => rfl) (fun _ _ => rfl) (fun _ _ => rfl) (fun k _ => soot0 A S k))
end PA
