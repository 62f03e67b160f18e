/-! The duty of share. -/
/-- what a house's fire brings beside the fires of t -/
def dSo (A : AV) (S : AS) (i t : Nat) : Int := (soX A S (t ||| 2 ^ i) : Int) - (soX A S t : Int)
section SH
variable {N x y o J : Nat} {A : AV} {S : AS}
theorem gv_no (hT : WS A J S) {j w b : Nat} (hj : j < 4) (h : tL S j = 0) : gv A (tF S j) (tL S j) w b = 0 := by
  unfold gv
  rw [if_pos (Or.inr (Or.inr h))]
theorem soX_c (hT : WS A J S) {X X' : Nat} (h : ∀ j, j < 4 → tL S j ≠ 0 → X.testBit j = X'.testBit j) : soX A S X = soX A S X' := by
  have e : ∀ b, smX A S X b = smX A S X' b := fun b => by
    unfold smX smk
    rw [fb_cong (fun j hj => ?_)]
    by_cases c : tL S j = 0
    · rw [gv_no hT hj c]
      by_cases p : X.testBit j = true
      · by_cases q : X'.testBit j = true
        · rw [if_pos p, if_pos q]
        · rw [if_pos p, if_neg q]
      · by_cases q : X'.testBit j = true
        · rw [if_neg p, if_pos q]
        · rw [if_neg p, if_neg q]
    · rw [h j hj c]
  unfold soX
  rw [e 0, e 1]
theorem soX_le (hW : WV A) (X : Nat) : soX A S X ≤ 999 := hW.2.2.2.2.2.2.2.2.2 _ _ _
theorem dSo_b (hW : WV A) (i t : Nat) : -999 ≤ dSo A S i t ∧ dSo A S i t ≤ 999 := by
  have a := soX_le (S := S) hW (t ||| 2 ^ i)
  have b := soX_le (S := S) hW t
  unfold dSo
  omega
theorem zs_tail {g : Nat → Int} {n : Nat} : ∀ d, (∀ t, n ≤ t → t < n + d → g t = 0) → zs g (n + d) = zs g n
  | 0, _ => rfl
  | d + 1, h => by
    show zs g (n + d) + g (n + d) = _
    rw [zs_tail d (fun t h1 h2 => h t h1 (by omega)), h (n + d) (by omega) (by omega), Int.add_zero]
theorem sb5 : ∀ n, n < 5 → ∀ p, p < 5 → (p + 1 ≤ n → nI n - (1 : Int32) - nI p = nI (n - 1 - p)) := by decide +kernel
theorem i32s (a b : Nat) : nI a - nI b = Int32.ofInt ((a : Int) - (b : Int)) := by
  show Int32.ofNat a - Int32.ofNat b = _
  rw [← Int32.ofInt_eq_ofNat, ← Int32.ofInt_eq_ofNat, ← Int32.ofInt_sub]
theorem acc32 (s d : Int) (f g : Nat) : Int32.ofInt s + Int32.ofInt d * nI f * nI g = Int32.ofInt (s + ((f * g : Nat) : Int) * d) := by
  show Int32.ofInt s + Int32.ofInt d * Int32.ofNat f * Int32.ofNat g = _
  rw [← Int32.ofInt_eq_ofNat, ← Int32.ofInt_eq_ofNat, ← Int32.ofInt_mul, ← Int32.ofInt_mul, ← Int32.ofInt_add, Int.natCast_mul, Int.mul_comm _ d, Int.mul_assoc]
theorem acc64 (s d : Int) (f g : Nat) : Int64.ofInt s + Int64.ofInt d * lN f * lN g = Int64.ofInt (s + ((f * g : Nat) : Int) * d) := by
  show Int64.ofInt s + Int64.ofInt d * Int64.ofNat f * Int64.ofNat g = _
  rw [← Int64.ofInt_eq_ofNat, ← Int64.ofInt_eq_ofNat, ← Int64.ofInt_mul, ← Int64.ofInt_mul, ← Int64.ofInt_add, Int.natCast_mul, Int.mul_comm _ d, Int.mul_assoc]
theorem c_sh98 (hN2 : 2000 ≤ N) {v w' i B : Nat} (hT : WS A J S) (hJ : J < 2 ^ 30) (hWV : WV A) (hi : i < 4) (hB : B < 16) (ib : B.testBit i = true) : ∀ (n t : Nat) (h : PH), 17 < n + t → t ≤ B - 2 ^ i + 1 → OB h x v w' → VA h v A → CS h (x + 3 + 1) S → ∃ h', f_X10_share_98 N n x ((1 : Int32) <<< (nI i &&& 31)) (nI (B - 2 ^ i)) (nI (popc B)) (Int32.ofInt (zs (fun t => (wgt B i t : Int) * dSo A S i t) t)) (nI t) h = some (Int32.ofInt (shQ (zs (fun t => (wgt B i t : Int) * dSo A S i t) 16) (fct (popc B))), h') ∧ Gx v h h' ∧ VA h' v A
  | 0, t, h, h1, h2, _, _, _ => by
    have := (cl16a B hB i hi ib).2
    omega
  | n + 1, t, h, h1, h2, ob, pv, cS => by
    have vw := ob.1
    have d : Dj (x + 3 + 1) v := by unfold Dj; omega
    have V16 := (cl16a B hB i hi ib).2
    have pB := popc_le B
    obtain ⟨ws1, ws2, ws3⟩ := wgt_sum B hB i hi ib
    have bd := zs_bd (c := wgt B i) (dSo_b (S := S) hWV i) 16
    rw [ws1] at bd
    show ∃ h', f_X10_share_98_b N (f_X10_share_98 N n) x _ _ _ _ _ h = _ ∧ _
    unfold f_X10_share_98_b
    rw [ite_i (nI_ltI (a := B - 2 ^ i) (b := t) (by omega) (by omega))]
    by_cases c : B - 2 ^ i < t
    · have e : zs (fun t => (wgt B i t : Int) * dSo A S i t) t = zs (fun t => (wgt B i t : Int) * dSo A S i t) 16 := by
        rw [show (16 : Nat) = t + (16 - t) by omega]
        refine (zs_tail (16 - t) (fun u u1 u2 => ?_)).symm
        have : wgt B i u = 0 := by
          unfold wgt
          rw [if_neg (fun q => by
            have := le16 u (by omega) (B - 2 ^ i) V16 ((cl16b B hB i hi u (by omega) ib).mpr q)
            omega)]
        rw [this]
        exact Int.zero_mul _
      rw [if_pos c, e, ck_p (nI_ix (by omega) (by decide)), ix_nI (by omega), go16 _ (by omega), ck_p (nI_ne0 ws3 (by omega)), sh32 (by omega) (by omega) ws3 ws2]
      exact ⟨h, rfl, Gx.rf, pv⟩
    · have t16 : t < 16 := by omega
      have next : ∀ g, Gx v h g → VA g v A → ∃ h', f_X10_share_185 N (f_X10_share_98 N n) x ((1 : Int32) <<< (nI i &&& 31)) (nI (B - 2 ^ i)) (nI (popc B)) (Int32.ofInt (zs (fun t => (wgt B i t : Int) * dSo A S i t) (t + 1))) (nI t) g = some (Int32.ofInt (shQ (zs (fun t => (wgt B i t : Int) * dSo A S i t) 16) (fct (popc B))), h') ∧ Gx v h h' ∧ VA h' v A := fun g xg pg => by
        obtain ⟨h', t1, t2, t3⟩ := c_sh98 hN2 hT hJ hWV hi hB ib n (t + 1) g (by omega) (by omega) (ob.shp xg.shp) pg (cS.gx d xg)
        refine ⟨h', ?_, xg.trans t2, t3⟩
        unfold f_X10_share_185
        rw [bd_e, nI_1]
        exact t1
      rw [if_neg c, ite_i (sub16 t t16 _ V16)]
      by_cases s : t &&& (B - 2 ^ i) = t
      · have q := (cl16b B hB i hi t t16 ib).mp s
        have pc := pc16 B hB i hi t t16 ⟨ib, q.1, q.2⟩
        have wg : wgt B i t = fct (popc t) * fct (popc B - 1 - popc t) := by unfold wgt; rw [if_pos q]
        obtain ⟨o1, o2⟩ := or16 t t16 i hi
        obtain ⟨g, r1, x1, p1⟩ := c_sootBy hN2 d pv ob.st cS hT hJ o2
        have ob1 := ob.shp (x := x) x1.shp
        obtain ⟨g', r2, x2, p2⟩ := c_sootBy hN2 d p1 ob1.st (cS.gx d x1) hT hJ t16
        rw [if_pos s, c_bitCount t16, cl_s, ck_p ob.k9, ob.R1, rq_s, ck_p ob.mt.1, ob.mt.2.1.1, rq_s, ob.R8, rq_s, ck_p ob.st.1, o1, r1, cl_s, ck_p ob1.k9, ob1.R1, rq_s, ck_p ob1.mt.1, ob1.mt.2.1.1, rq_s, ob1.R8, rq_s, ck_p ob1.st.1, r2, cl_s, bd_e, sb5 _ (by omega) _ (by omega) pc, ck_p (nI_ix (by omega) (by decide)), ck_p (nI_ix (by omega) (by decide)), ix_nI (by omega), ix_nI (by omega), go16 _ (by omega), go16 _ (by omega), i32s, acc32, ← wg, bd_e]
        exact next g' (x1.trans x2) p2
      · have wg : wgt B i t = 0 := by
          unfold wgt
          rw [if_neg (fun q => s ((cl16b B hB i hi t t16 ib).mpr q))]
        have e : zs (fun t => (wgt B i t : Int) * dSo A S i t) (t + 1) = zs (fun t => (wgt B i t : Int) * dSo A S i t) t := by
          show zs (fun t => (wgt B i t : Int) * dSo A S i t) t + (wgt B i t : Int) * dSo A S i t = _
          rw [wg, show ((0 : Nat) : Int) = 0 from rfl, Int.zero_mul, Int.add_zero]
        have nx := next h Gx.rf pv
        rw [e] at nx
        rw [if_neg s]
        exact nx
end SH
