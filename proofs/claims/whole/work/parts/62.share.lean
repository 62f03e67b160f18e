/-! The duty of share: sums over sets of houses. -/
def zs (g : Nat → Int) : Nat → Int
  | 0 => 0
  | n + 1 => zs g n + g n
theorem zs_cong {f g : Nat → Int} : ∀ {n}, (∀ i, i < n → f i = g i) → zs f n = zs g n
  | 0, _ => rfl
  | n + 1, h => by
    show zs f n + f n = zs g n + g n
    rw [zs_cong (fun i hi => h i (by omega)), h n (by omega)]
theorem zs_add {f g : Nat → Int} : ∀ n, zs (fun i => f i + g i) n = zs f n + zs g n
  | 0 => rfl
  | n + 1 => by
    show zs (fun i => f i + g i) n + (f n + g n) = zs f n + f n + (zs g n + g n)
    rw [zs_add n]
    omega
theorem zs_mul {f : Nat → Int} (a : Int) : ∀ n, zs (fun i => a * f i) n = a * zs f n
  | 0 => (Int.mul_zero a).symm
  | n + 1 => by
    show zs (fun i => a * f i) n + a * f n = a * (zs f n + f n)
    rw [zs_mul a n, Int.mul_add]
theorem zs_0 {f : Nat → Int} : ∀ n, (∀ i, i < n → f i = 0) → zs f n = 0
  | 0, _ => rfl
  | n + 1, h => by
    show zs f n + f n = 0
    rw [zs_0 n (fun i hi => h i (by omega)), h n (by omega)]
    rfl
theorem zs_1 {a : Nat} {c : Nat} {D : Nat → Int} : ∀ n, zs (fun t => (((if a = t then c else 0 : Nat)) : Int) * D t) n = if a < n then (c : Int) * D a else 0
  | 0 => rfl
  | n + 1 => by
    show zs (fun t => (((if a = t then c else 0 : Nat)) : Int) * D t) n + (((if a = n then c else 0 : Nat)) : Int) * D n = _
    rw [zs_1 n]
    by_cases e : a = n
    · subst e
      rw [if_neg (Nat.lt_irrefl a), if_pos rfl, if_pos (Nat.lt_succ_self a), Int.zero_add]
    · have l : (a < n + 1) ↔ (a < n) := by omega
      rw [if_neg e, ite_i l]
      show _ + ((0 : Nat) : Int) * D n = _
      rw [show ((0 : Nat) : Int) = 0 from rfl, Int.zero_mul, Int.add_zero]
theorem zs_swap {c g : Nat → Nat} {D : Nat → Int} (hg : ∀ t, g t < 16) : ∀ n, zs (fun t => (c t : Int) * D (g t)) n = zs (fun u => ((fb_sm (fun t => if g t = u then c t else 0) n : Nat) : Int) * D u) 16
  | 0 => (zs_0 16 (fun i _ => Int.zero_mul _)).symm
  | n + 1 => by
    show zs (fun t => (c t : Int) * D (g t)) n + (c n : Int) * D (g n) = _
    have e : (fun u => ((fb_sm (fun t => if g t = u then c t else 0) (n + 1) : Nat) : Int) * D u) = (fun u => ((fb_sm (fun t => if g t = u then c t else 0) n : Nat) : Int) * D u + (((if g n = u then c n else 0 : Nat)) : Int) * D u) := by
      funext u
      rw [← Int.add_mul]
      congr 1
    rw [e, zs_add, zs_swap hg n, zs_1 16, if_pos (hg n)]
theorem zs_bd {c : Nat → Nat} {D : Nat → Int} (hD : ∀ t, -999 ≤ D t ∧ D t ≤ 999) : ∀ n, -(999 * (fb_sm c n : Nat) : Int) ≤ zs (fun t => (c t : Int) * D t) n ∧ zs (fun t => (c t : Int) * D t) n ≤ 999 * (fb_sm c n : Nat)
  | 0 => ⟨by show -(999 * ((0 : Nat) : Int)) ≤ 0; omega, by show (0 : Int) ≤ 999 * ((0 : Nat) : Int); omega⟩
  | n + 1 => by
    obtain ⟨a, b⟩ := zs_bd (c := c) hD n
    obtain ⟨p, q⟩ := hD n
    have z : (0 : Int) ≤ (c n : Int) := Int.natCast_nonneg _
    have u := Int.mul_le_mul_of_nonneg_left q z
    have l := Int.mul_le_mul_of_nonneg_left p z
    show -(999 * ((fb_sm c n + c n : Nat) : Int)) ≤ zs (fun t => (c t : Int) * D t) n + (c n : Int) * D n ∧ zs (fun t => (c t : Int) * D t) n + (c n : Int) * D n ≤ 999 * ((fb_sm c n + c n : Nat) : Int)
    rw [Int.natCast_add]
    constructor <;> omega
def fct (n : Nat) : Nat := [1, 1, 2, 6, 24].getD n 0
/-- the weight of a set t of the others, of a set v that holds the house i too -/
def wgt (v i t : Nat) : Nat := if t &&& v = t ∧ t.testBit i = false then fct (popc t) * fct (popc v - 1 - popc t) else 0
theorem wgt_e0 : ∀ v, v < 16 → ∀ q, q < 1024 → ((q / 16 % 16) &&& v = q / 16 % 16 ∧ (q / 16 % 16).testBit (q / 256) = true → fb_sm (fun t => if t &&& (q / 16 % 16) = q % 16 then wgt v (q / 256) t else 0) 16 * fct (popc (q / 16 % 16)) = wgt (q / 16 % 16) (q / 256) (q % 16) * fct (popc v)) := by decide +kernel
theorem wgt_eq (v : Nat) (hv : v < 16) (i : Nat) (hi : i < 4) (b : Nat) (hb : b < 16) (h1 : b &&& v = b) (h2 : b.testBit i = true) (u : Nat) (hu : u < 16) : fb_sm (fun t => if t &&& b = u then wgt v i t else 0) 16 * fct (popc b) = wgt b i u * fct (popc v) := by
  have q := wgt_e0 v hv (256 * i + 16 * b + u) (by omega)
  rw [show (256 * i + 16 * b + u) / 16 % 16 = b by omega, show (256 * i + 16 * b + u) / 256 = i by omega, show (256 * i + 16 * b + u) % 16 = u by omega] at q
  exact q ⟨h1, h2⟩
theorem wgt_sum : ∀ v, v < 16 → ∀ i, i < 4 → v.testBit i = true → fb_sm (wgt v i) 16 = fct (popc v) ∧ fct (popc v) ≤ 24 ∧ 0 < fct (popc v) := by decide +kernel
theorem shap {v i b : Nat} (hv : v < 16) (hi : i < 4) (hb : b < 16) (sb : b &&& v = b) (ib : b.testBit i = true) {D : Nat → Int} (hD : ∀ t, t &&& v = t → D t = D (t &&& b)) : zs (fun t => (wgt v i t : Int) * D t) 16 * (fct (popc b) : Nat) = zs (fun t => (wgt b i t : Int) * D t) 16 * (fct (popc v) : Nat) := by
  have e1 : zs (fun t => (wgt v i t : Int) * D t) 16 = zs (fun t => (wgt v i t : Int) * D (t &&& b)) 16 := zs_cong (fun t _ => by
    by_cases c : t &&& v = t
    · rw [hD t c]
    · have : wgt v i t = 0 := by unfold wgt; rw [if_neg (fun z => c z.1)]
      rw [this, show ((0 : Nat) : Int) = 0 from rfl, Int.zero_mul, Int.zero_mul])
  rw [e1, zs_swap (g := fun t => t &&& b) (fun t => Nat.lt_of_le_of_lt Nat.and_le_right hb) 16, Int.mul_comm _ ((fct (popc b) : Nat) : Int), ← zs_mul, Int.mul_comm _ ((fct (popc v) : Nat) : Int), ← zs_mul]
  refine zs_cong (fun u hu => ?_)
  have w := wgt_eq v hv i hi b hb sb ib u hu
  rw [← Int.mul_assoc, ← Int.mul_assoc, ← Int.natCast_mul, ← Int.natCast_mul, Nat.mul_comm (fct (popc b)), w, Nat.mul_comm (fct (popc v))]
/-- what is shared -/
def shQ (s : Int) (f : Nat) : Int := (s * 1000).tdiv (f : Nat)
theorem shQ_eq {a b : Int} {m n : Nat} (hm : 0 < m) (hn : 0 < n) (h : a * (m : Nat) = b * (n : Nat)) : shQ a n = shQ b m := by
  unfold shQ
  have e1 : (a * 1000).tdiv (n : Nat) = (((m : Nat) : Int) * (a * 1000)).tdiv (((m : Nat) : Int) * (n : Nat)) := (Int.mul_tdiv_mul_of_pos _ _ (by omega)).symm
  have e2 : (b * 1000).tdiv (m : Nat) = (((n : Nat) : Int) * (b * 1000)).tdiv (((n : Nat) : Int) * (m : Nat)) := (Int.mul_tdiv_mul_of_pos _ _ (by omega)).symm
  rw [e1, e2]
  congr 1
  · rw [← Int.mul_assoc, ← Int.mul_assoc, Int.mul_comm (m : Int) a, h, Int.mul_comm (n : Int) b]
  · exact Int.mul_comm _ _
theorem sh32 {s : Int} {f : Nat} (h1 : -23976 ≤ s) (h2 : s ≤ 23976) (hf : 0 < f) (hf2 : f ≤ 24) : (Int32.ofInt s * (1000 : Int32)) / nI f = Int32.ofInt (shQ s f) := by
  apply Int32.toInt_inj.mp
  have e : Int32.ofInt s * (1000 : Int32) = Int32.ofInt (s * 1000) := by
    rw [show (1000 : Int32) = Int32.ofInt 1000 from rfl, ← Int32.ofInt_mul]
  have ne : nI f ≠ -1 := fun z => by
    have := congrArg Int32.toInt z
    rw [nI_toInt (by omega), show (-1 : Int32).toInt = -1 by decide] at this
    omega
  have b1 : -24000000 ≤ s * 1000 := by omega
  have b2 : s * 1000 ≤ 24000000 := by omega
  have q1 : -(24000000 : Int) ≤ (s * 1000).tdiv (f : Nat) ∧ (s * 1000).tdiv (f : Nat) ≤ 24000000 := by
    have fi : (0 : Int) < (f : Nat) := by omega
    rcases Int.lt_or_le (s * 1000) 0 with c | c
    · have : (s * 1000).tdiv (f : Nat) = -((-(s * 1000)).tdiv (f : Nat)) := by rw [Int.neg_tdiv, Int.neg_neg]
      rw [this, Int.tdiv_eq_ediv_of_nonneg (by omega)]
      have u := Int.ediv_le_self (f : Int) (show (0 : Int) ≤ -(s * 1000) by omega)
      have l := Int.ediv_nonneg (show (0 : Int) ≤ -(s * 1000) by omega) (Int.le_of_lt fi)
      omega
    · rw [Int.tdiv_eq_ediv_of_nonneg c]
      have u := Int.ediv_le_self (f : Int) c
      have l := Int.ediv_nonneg c (Int.le_of_lt fi)
      omega
  rw [Int32.toInt_div_of_ne_right _ _ ne, e, Int32.toInt_ofInt_of_le (by omega) (by omega), nI_toInt (by omega)]
  unfold shQ
  rw [Int32.toInt_ofInt_of_le (by omega) (by omega)]
theorem sh64 {s : Int} {f : Nat} (h1 : -23976 ≤ s) (h2 : s ≤ 23976) (hf : 0 < f) (hf2 : f ≤ 24) : ((Int64.ofInt s * (1000 : Int64)) / lN f).toInt32 = Int32.ofInt (shQ s f) := by
  have e : Int64.ofInt s * (1000 : Int64) = Int64.ofInt (s * 1000) := by
    rw [show (1000 : Int64) = Int64.ofInt 1000 from rfl, ← Int64.ofInt_mul]
  have ne : lN f ≠ -1 := fun z => by
    have := congrArg Int64.toInt z
    rw [lN_toInt (by omega), show (-1 : Int64).toInt = -1 by decide] at this
    omega
  have q : (Int64.ofInt s * (1000 : Int64)) / lN f = Int64.ofInt (shQ s f) := by
    rw [← Int64.ofInt_toInt ((Int64.ofInt s * (1000 : Int64)) / lN f), Int64.toInt_div_of_ne_right _ _ ne, e, Int64.toInt_ofInt_of_le (by omega) (by omega), lN_toInt (by omega)]
    rfl
  rw [q, Int64.toInt32_ofInt]
theorem or16 : ∀ t, t < 16 → ∀ i, i < 4 → (nI t ||| ((1 : Int32) <<< (nI i &&& 31))) = nI (t ||| 2 ^ i) ∧ t ||| 2 ^ i < 16 := by decide +kernel
theorem sub16 : ∀ t, t < 16 → ∀ v, v < 16 → ((nI t &&& (nI v ^^^ (-1 : Int32))) = 0 ↔ t &&& v = t) := by decide +kernel
theorem cl16a : ∀ b, b < 16 → ∀ i, i < 4 → (b.testBit i = true → (nI b &&& (((1 : Int32) <<< (nI i &&& 31)) ^^^ (-1 : Int32))) = nI (b - 2 ^ i) ∧ b - 2 ^ i < 16) := by decide +kernel
theorem cl16c : ∀ b, b < 16 → ∀ q, q < 64 → (b.testBit (q / 16) = true → ((q % 16) &&& (b - 2 ^ (q / 16)) = q % 16 ↔ ((q % 16) &&& b = q % 16 ∧ (q % 16).testBit (q / 16) = false))) := by decide +kernel
theorem cl16b (b : Nat) (hb : b < 16) (i : Nat) (hi : i < 4) (t : Nat) (ht : t < 16) (h : b.testBit i = true) : t &&& (b - 2 ^ i) = t ↔ (t &&& b = t ∧ t.testBit i = false) := by
  have q := cl16c b hb (16 * i + t) (by omega)
  rw [show (16 * i + t) / 16 = i by omega, show (16 * i + t) % 16 = t by omega] at q
  exact q h
theorem an16 : ∀ t, t < 16 → ∀ v, v < 16 → (nI t &&& nI v) = nI (t &&& v) := by decide +kernel
theorem le16 : ∀ t, t < 16 → ∀ v, v < 16 → t &&& v = t → t ≤ v := by decide +kernel
theorem pc16 : ∀ b, b < 16 → ∀ i, i < 4 → ∀ t, t < 16 → (b.testBit i = true ∧ t &&& b = t ∧ t.testBit i = false → popc t + 1 ≤ popc b) := by decide +kernel
theorem go16 : ∀ j, j < 5 → gorders j = nI (fct j) := by decide +kernel
