/-! The class's walk: what a way shows. -/
def allB (p : Nat → Bool) : Nat → Bool
  | 0 => true
  | n + 1 => allB p n && p n
theorem allB_iff {p : Nat → Bool} : ∀ {n}, allB p n = true ↔ ∀ i, i < n → p i = true
  | 0 => ⟨fun _ i hi => absurd hi (Nat.not_lt_zero i), fun _ => rfl⟩
  | n + 1 => by
    unfold allB
    rw [Bool.and_eq_true, allB_iff]
    refine ⟨fun z i hi => ?_, fun z => ⟨fun i hi => z i (by omega), z n (by omega)⟩⟩
    by_cases c : i = n
    · rw [c]; exact z.2
    · exact z.1 i (by omega)
theorem allB_no {p : Nat → Bool} {n i : Nat} (hi : i < n) (h : p i = false) : allB p n = false := by
  cases c : allB p n
  · rfl
  · have := allB_iff.mp c i hi
    rw [h] at this
    exact absurd this (by decide)
def fitB (A : AV) (k v b : Nat) : Bool := decide (aR A (4 * k + 2 * b) ≤ v ∧ v ≤ aR A (4 * k + 2 * b + 1))
def nofit (A : AV) (v b : Nat) : Bool := allB (fun k => !fitB A k v b) (aC A 3)
/-- whether a thing read is so, of a dark, a sweet and a sign -/
def rkB (A : AV) (d s : Nat) (sg : Int32) (who : Nat) (seen : Int32) : Bool := if aG A who = 2 then decide (sg = seen) else if seen = -1 then nofit A (if aG A who = 0 then d else s) (aG A who) else fitB A (ix seen) (if aG A who = 0 then d else s) (aG A who)
/-- whether all that is read over a flue is so -/
def okd (A : AV) (R : AR) (f d s : Nat) (sg : Int32) : Bool := allB (fun i => !decide (R.2.2.1 i = f) || rkB A d s sg (R.2.1 i) (R.2.2.2 i)) R.1
section AG
variable {N : Nat} {A : AV} {h : PH} {v : Nat}
theorem c_fitsB (p : VA h v A) {k b z : Nat} (hk : k < aC A 3) (hb : b < 2) (hz : z < 2 ^ 31) : f_X6_fits N v (nI k) (nI z) (nI b) h = some (yb (fitB A k z b), h) := by
  rw [c_fits p.1 p.2.1 p.2.2.1 hk hb hz]
  congr 2
  refine yes_yb ?_
  unfold fitB
  rw [decide_eq_true_eq]
theorem c_fn (p : VA h v A) {b z : Nat} (hb : b < 2) (hz : z < 2 ^ 31) : ∀ (n i : Nat), aC A 3 < n + i → i ≤ aC A 3 → allB (fun k => !fitB A k z b) i = true → f_X6_fitsNone_2 N n v (nI z) (nI b) (nI i) h = some (yb (nofit A z b), h)
  | 0, i, h1, h2, _ => by omega
  | n + 1, i, h1, h2, ha => by
    have h6 := p.2.2.1.1.2.2.2.1
    show f_X6_fitsNone_2_b N (f_X6_fitsNone_2 N n) v _ _ _ h = _
    unfold f_X6_fitsNone_2_b
    rw [ck_p p.1.1, vR_many p.1, rq_s, ck_p (vK_many p.1), vN_many p.1, ck_p (by decide), p.2.1.1 3 (by decide), ite_i (nI_leI (by omega) (by omega))]
    by_cases c : aC A 3 ≤ i
    · have e : i = aC A 3 := by omega
      subst e
      unfold nofit
      rw [if_pos c, ha]
      rfl
    · rw [if_neg c, c_fitsB p (by omega) hb hz, cl_s, ite_i yb0]
      by_cases f : fitB A i z b = true
      · rw [if_neg (by rw [f]; decide)]
        have : nofit A z b = false := allB_no (i := i) (by omega) (by simp [f])
        rw [this]
        rfl
      · have f : fitB A i z b = false := by simpa using f
        rw [if_pos f, bd_e, nI_1]
        exact c_fn p hb hz n (i + 1) (by omega) (by omega) (by unfold allB; rw [ha, f]; rfl)
theorem c_fitsNone (hN : 10 ≤ N) (p : VA h v A) {b z : Nat} (hb : b < 2) (hz : z < 2 ^ 31) : f_X6_fitsNone N v (nI z) (nI b) h = some (yb (nofit A z b), h) := c_fn p hb hz N 0 (by have := p.2.2.1.1.2.2.2.1; omega) (by omega) rfl
theorem c_ag3 (hN : 10 ≤ N) {m f d s : Nat} {sg : Int32} {R : AR} (p : VA h v A) (mt : MT h m) (cR : CR h m R) (wR : WR A R) (hf : f < 1000) (hd : d ≤ 999) (hs : s ≤ 999) : ∀ (n i : Nat), R.1 < n + i → i ≤ R.1 → allB (fun i => !decide (R.2.2.1 i = f) || rkB A d s sg (R.2.1 i) (R.2.2.2 i)) i = true → f_X2_agrees_3 N n m v (nI f) (nI d) (nI s) sg (nI i) h = some (yb (okd A R f d s sg), h)
  | 0, i, h1, h2, _ => by omega
  | n + 1, i, h1, h2, ha => by
    have hW := p.2.2.1
    have h3 := hW.1.2.1
    have h4 := hW.1.2.2.2.2.1
    have h6 := hW.1.2.2.2.1
    have r8 := wR.1
    show f_X2_agrees_3_b N (f_X2_agrees_3 N n) m v _ _ _ _ _ h = _
    unfold f_X2_agrees_3_b
    rw [ck_p mt.1, cR.1, ite_i (nI_leI (by omega) (by omega))]
    by_cases c : R.1 ≤ i
    · have e : i = R.1 := by omega
      subst e
      unfold okd
      rw [if_pos c, ha]
      rfl
    · obtain ⟨w1, w2, w3⟩ := wR.2 i (by omega)
      obtain ⟨c1, c2, c3⟩ := cR.2 i (by omega)
      have hg := hW.2.2.2.2.2.2.1 _ w1
      have j8 : inb (nI i) 8 := nI_ix (by omega) (by decide)
      have xi : ix (nI i) = i := ix_nI (by omega)
      -- behind the judgement of this thing read
      have fin : ∀ t : Bool, rkB A d s sg (R.2.1 i) (R.2.2.2 i) = t → ∀ a : Int32, f_X2_agrees_96 N (f_X2_agrees_3 N n) (yb t) m v (nI f) (nI d) (nI s) sg (nI i) h = some (yb (okd A R f d s sg), h) := fun t ht _ => by
        unfold f_X2_agrees_96 f_X2_agrees_116
        have go : (!decide (R.2.2.1 i = f) || rkB A d s sg (R.2.1 i) (R.2.2.2 i)) = true → f_X2_agrees_3 N n m v (nI f) (nI d) (nI s) sg (nI (i + 1)) h = some (yb (okd A R f d s sg), h) := fun q => c_ag3 hN p mt cR wR hf hd hs n (i + 1) (by omega) (by omega) (by unfold allB; rw [ha, q]; rfl)
        rw [ck_p mt.1, mt.2.1.2.2.2.1, rq_s, ck_p mt.2.2.2.2.2.1.1, mt.2.2.2.2.2.1.2, ck_p j8, xi, c2, ite_i (nI_eq (by omega) (by omega))]
        by_cases e : R.2.2.1 i = f
        · rw [if_pos e, ite_i yb0]
          cases t with
          | true =>
            rw [if_neg (by decide), bd_e, nI_1]
            exact go (by rw [ht]; simp)
          | false =>
            rw [if_pos rfl]
            have : okd A R f d s sg = false := allB_no (i := i) (by omega) (by simp [e, ht])
            rw [this]
            rfl
        · rw [if_neg e, bd_e, nI_1]
          exact go (by simp [e])
      have sight : hI h (v + 9) (R.2.1 i) = nI (aG A (R.2.1 i)) := p.2.1.2.2.2.2.2.2.1 _ w1
      rw [if_neg c, mt.2.1.2.2.2.2, rq_s, ck_p mt.2.2.2.2.2.2.1, mt.2.2.2.2.2.2.2, ck_p j8, xi, c3, bd_e, ck_p p.1.1, vR_sights p.1, rq_s, mt.2.1.2.2.1, rq_s, ck_p mt.2.2.2.2.1.1, mt.2.2.2.2.1.2, ck_p j8, ck_p (vK_sights p.1), vN_sights p.1, c1, ck_p (nI_ix (by omega) (by decide)), ix_nI (by omega), sight, bd_e, ite_i (show nI (aG A (R.2.1 i)) = 0 ↔ aG A (R.2.1 i) = 0 from nI_eq (b := 0) (by omega) (by decide))]
      -- either value
      have go46 : ∀ z : Nat, z ≤ 999 → (aG A (R.2.1 i) ≠ 2 → z = if aG A (R.2.1 i) = 0 then d else s) → f_X2_agrees_46 N (f_X2_agrees_3 N n) (nI z) m v (nI f) (nI d) (nI s) sg (nI i) (R.2.2.2 i) (nI (aG A (R.2.1 i))) h = some (yb (okd A R f d s sg), h) := fun z hz ez => by
        unfold f_X2_agrees_46
        rw [ite_i (show nI (aG A (R.2.1 i)) = 2 ↔ aG A (R.2.1 i) = 2 from nI_eq (b := 2) (by omega) (by decide))]
        unfold rkB at fin
        by_cases g2 : aG A (R.2.1 i) = 2
        · rw [if_pos g2] at fin ⊢
          by_cases q : sg = R.2.2.2 i
          · rw [if_pos q]; exact fin true (by simp [q]) 0
          · rw [if_neg q]; exact fin false (by simp [q]) 0
        · rw [if_neg g2] at fin ⊢
          rw [← ez g2] at fin
          by_cases q : R.2.2.2 i = -1
          · rw [if_pos q] at fin ⊢
            rw [ck_p p.1.1, c_fitsNone hN p (by omega) (by omega), cl_s]
            exact fin _ rfl 0
          · rw [if_neg q] at fin ⊢
            obtain ⟨k, hk, ek⟩ := w3.resolve_left q
            rw [ek, ix_nI (by omega)] at fin
            rw [ck_p p.1.1, ek, c_fitsB p hk (by omega) (by omega), cl_s]
            exact fin _ rfl 0
      by_cases g0 : aG A (R.2.1 i) = 0
      · rw [if_pos g0]; exact go46 d hd (fun _ => by rw [if_pos g0])
      · rw [if_neg g0]; exact go46 s hs (fun _ => by rw [if_neg g0])
theorem c_agrees (hN : 10 ≤ N) {m f d s : Nat} {sg : Int32} {R : AR} (p : VA h v A) (mt : MT h m) (cR : CR h m R) (wR : WR A R) (hf : f < 1000) (hd : d ≤ 999) (hs : s ≤ 999) : f_X2_agrees N m v (nI f) (nI d) (nI s) sg h = some (yb (okd A R f d s sg), h) := c_ag3 hN p mt cR wR hf hd hs N 0 (by have := wR.1; omega) (by omega) rfl
end AG
/-- how often a key came, how often the one that came most often, what a house always did (6: not the same); the latest first -/
def cn (key : (Nat → Nat) → Nat) (d : Nat) : List (Nat → Nat) → Nat
  | [] => 0
  | u :: l => cn key d l + (if key u = d then 1 else 0)
def mx (key : (Nat → Nat) → Nat) : List (Nat → Nat) → Nat
  | [] => 0
  | u :: l => max (mx key l) (cn key (key u) (u :: l))
def sN (j : Nat) : List (Nat → Nat) → Nat
  | [] => 6
  | u :: l => match l with
    | [] => u j
    | _ :: _ => if sN j l = u j then u j else 6
theorem cn_le {key : (Nat → Nat) → Nat} {d : Nat} : ∀ l, cn key d l ≤ l.length
  | [] => Nat.le_refl _
  | u :: l => by
    have := cn_le (key := key) (d := d) l
    unfold cn
    rw [List.length_cons]
    split <;> omega
theorem mx_le {key : (Nat → Nat) → Nat} : ∀ l, mx key l ≤ l.length
  | [] => Nat.le_refl _
  | u :: l => by
    have := mx_le (key := key) l
    have q := cn_le (key := key) (d := key u) (u :: l)
    unfold mx
    rw [List.length_cons] at q ⊢
    omega
/-- the sign's key: 6 none -/
def sgK (A : AV) (d s : Nat) : Nat := if aSg A d s (aC A 3) 0 = aC A 3 then 6 else aSg A d s (aC A 3) 0
theorem sgK_c {A : AV} (hW : WV A) (d s : Nat) : (aSign A d s = -1 ∧ sgK A d s = 6) ∨ (∃ k, k < aC A 3 ∧ aSign A d s = nI k ∧ sgK A d s = k) := by
  unfold aSign sgK
  by_cases c : aSg A d s (aC A 3) 0 = aC A 3
  · rw [if_pos c, if_pos c]; exact Or.inl ⟨rfl, rfl⟩
  · rw [if_neg c, if_neg c]
    have := aSg_le (A := A) (d := d) (s := s) (aC A 3) 0 (by omega)
    exact Or.inr ⟨_, by omega, rfl, rfl⟩
/-- the class's number of a choice -/
def cu (A : AV) (f : Nat) : Nat := if f = 5 then aC A 0 else f
def ce (A : AV) (n : Nat) : Int32 := if n = 6 then -1 else nI (cu A n)
/-- how many of X come ahead of k -/
def rkX (X : Nat) : Nat → Nat
  | 0 => 0
  | k + 1 => rkX X k + (if X.testBit k = true then 1 else 0)
theorem rkX_le (X : Nat) : ∀ k, rkX X k ≤ k
  | 0 => Nat.le_refl _
  | k + 1 => by
    have := rkX_le X k
    unfold rkX
    split <;> omega
theorem rkX_mono (X : Nat) {j : Nat} : ∀ k, rkX X j ≤ rkX X (j + k)
  | 0 => Nat.le_refl _
  | k + 1 => by
    have := rkX_mono X (j := j) k
    show _ ≤ rkX X (j + k) + _
    omega
theorem rkX_lt {X j k : Nat} (h : j < k) (t : X.testBit j = true) : rkX X j < rkX X k := by
  have a := rkX_mono X (j := j + 1) (k - (j + 1))
  rw [show j + 1 + (k - (j + 1)) = k by omega] at a
  have : rkX X (j + 1) = rkX X j + 1 := by
    show rkX X j + (if X.testBit j = true then 1 else 0) = _
    rw [if_pos t]
  omega
/-- the accumulators of a walk hold what came: f the flue, V the houses that choose -/
def WAc (A : AV) (S : AS) (f V : Nat) (h : PH) (x : Nat) (l : List (Nat → Nat)) : Prop := hI h (x + 23) 13 = nI l.length ∧ (∀ d, d ≤ 999 → hI h (x + 23 + 5) d = nI (cn (fun u => sb A S u f 0) d l)) ∧ (∀ d, d ≤ 999 → hI h (x + 23 + 6) d = nI (cn (fun u => sb A S u f 1) d l)) ∧ (∀ s, s ≤ 6 → hI h (x + 23 + 7) s = nI (cn (fun u => sgK A (sb A S u f 0) (sb A S u f 1)) s l)) ∧ hI h (x + 23) 14 = nI (mx (fun u => sb A S u f 0) l) ∧ hI h (x + 23) 15 = nI (mx (fun u => sb A S u f 1) l) ∧ hI h (x + 23) 16 = nI (mx (fun u => sgK A (sb A S u f 0) (sb A S u f 1)) l) ∧ ∀ j, j < 4 → V.testBit j = true → l ≠ [] → hI h (x + 23 + 4) (rkX V j) = ce A (sN j l)
/-- what a walk keeps while it goes: R what is read, mi whether it minds that -/
def WFx (A : AV) (R : AR) (f V w : Nat) (mi : Bool) (bs : Nat → Int32) (h : PH) (x v : Nat) : Prop := WK h (x + 23) ∧ MT h (x + 3) ∧ VA h v A ∧ CR h (x + 3) R ∧ hR h (x + 23) 7 = some v ∧ hR h (x + 23) 8 = some (x + 3) ∧ hI h (x + 23) 9 = yb mi ∧ hI h (x + 23) 10 = nI f ∧ hI h (x + 23) 11 = nI (rkX V 4) ∧ hI h (x + 23) 12 = nI w ∧ (∀ j, j < 4 → V.testBit j = true → hI h (x + 23 + 1) (rkX V j) = nI j ∧ hI h (x + 23 + 2) (rkX V j) = bs j)
/-- cells of a walk that change -/
def wkP (x v z : Nat) : Prop := z = x + 23 ∨ (x + 26 ≤ z ∧ z ≤ x + 30) ∨ z = v + 13 ∨ z = v + 16 ∨ z = v + 17
theorem WK.sm {h h' : PH} {k : Nat} (s : Sm h h') (p : WK h k) : WK h' k := by unfold WK IA at p ⊢; rw [s.1, s.2.1, s.2.2.1]; exact p
theorem WFx.ex {A : AV} {R : AR} {f V w : Nat} {mi : Bool} {bs : Nat → Int32} {h h' : PH} {x v : Nat} (hv : x + 43 ≤ v) (e : Ex (wkP x v) h h') (pv : VA h' v A) (sl : ∀ j, 9 ≤ j → j ≤ 12 → hI h' (x + 23) j = hI h (x + 23) j) (p : WFx A R f V w mi bs h x v) : WFx A R f V w mi bs h' x v := by
  obtain ⟨p1, p2, p3, p4, p5, p6, p7, p8, p9, p10, p11⟩ := p
  refine ⟨p1.sm e.1, p2.sm e.1, pv, ?_, by rw [e.1.2.2.1]; exact p5, by rw [e.1.2.2.1]; exact p6, by rw [sl 9 (by decide) (by decide)]; exact p7, by rw [sl 10 (by decide) (by decide)]; exact p8, by rw [sl 11 (by decide) (by decide)]; exact p9, by rw [sl 12 (by decide) (by decide)]; exact p10, fun j hj t => ?_⟩
  · unfold CR at p4 ⊢
    rw [e.2.2.2 (x + 3) (by unfold wkP; omega), e.2.2.2 (x + 3 + 8) (by unfold wkP; omega), e.2.2.2 (x + 3 + 9) (by unfold wkP; omega), e.2.2.2 (x + 3 + 10) (by unfold wkP; omega)]
    exact p4
  · rw [e.2.2.2 (x + 23 + 1) (by unfold wkP; omega), e.2.2.2 (x + 23 + 2) (by unfold wkP; omega)]
    exact p11 j hj t
