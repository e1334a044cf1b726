/-! how many bits -/
def cnt (f : Nat → Bool) : Nat → Nat
  | 0 => 0
  | k + 1 => cnt f k + (if f k = true then 1 else 0)
theorem cnt_le (f : Nat → Bool) : ∀ n, cnt f n ≤ n
  | 0 => Nat.le_refl _
  | n + 1 => by
    have := cnt_le f n
    unfold cnt
    split <;> omega
theorem cnt_mono {f g : Nat → Bool} : ∀ n, (∀ k, k < n → f k = true → g k = true) → cnt f n ≤ cnt g n
  | 0, _ => Nat.le_refl _
  | n + 1, h => by
    have := cnt_mono (f := f) (g := g) n (fun k hk => h k (by omega))
    have h2 := h n (by omega)
    unfold cnt
    by_cases q : f n = true
    · rw [if_pos q, if_pos (h2 q)]; omega
    · rw [if_neg q]; omega
theorem cnt_lt {f g : Nat → Bool} {x : Nat} : ∀ n, (∀ k, k < n → f k = true → g k = true) → x < n → g x = true → ¬ f x = true → cnt f n < cnt g n
  | 0, _, h, _, _ => by omega
  | n + 1, h, hx, h1, h2 => by
    have h3 := h n (by omega)
    unfold cnt
    by_cases q : x = n
    · subst q
      have := cnt_mono (f := f) (g := g) x (fun k hk => h k (by omega))
      rw [if_neg h2, if_pos h1]; omega
    · have := cnt_lt (f := f) (g := g) (x := x) n (fun k hk => h k (by omega)) (by omega) h1 h2
      by_cases q : f n = true
      · rw [if_pos q, if_pos (h3 q)]; omega
      · rw [if_neg q]; omega
theorem cnt_ext {f g : Nat → Bool} : ∀ n, (∀ k, k < n → f k = g k) → cnt f n = cnt g n
  | 0, _ => rfl
  | n + 1, h => by unfold cnt; rw [cnt_ext n (fun k hk => h k (by omega)), h n (by omega)]
theorem cnt_add (f : Nat → Bool) (a : Nat) : ∀ b, cnt f (a + b) = cnt f a + cnt (fun k => f (a + k)) b
  | 0 => rfl
  | b + 1 => by
    show cnt f (a + b) + (if f (a + b) = true then 1 else 0) = cnt f a + (cnt (fun k => f (a + k)) b + (if f (a + b) = true then 1 else 0))
    rw [cnt_add f a b]; omega
theorem cnt_all {f : Nat → Bool} {n : Nat} (h : n ≤ cnt f n) : ∀ k, k < n → f k = true := by
  intro k hk
  by_cases q : f k = true
  · exact q
  · have := cnt_lt (f := f) (g := fun _ => true) (x := k) n (fun _ _ _ => rfl) hk rfl q
    have := cnt_le (fun _ => true) n
    omega
theorem and8 {a m : Nat} (ha : a < 256) (hm : m < 256) (b n : Nat) : (256 * b + a) &&& (256 * n + m) = 256 * (b &&& n) + (a &&& m) := by
  have hb : (a &&& m) < 2 ^ 8 := Nat.lt_of_le_of_lt Nat.and_le_left ha
  apply Nat.eq_of_testBit_eq
  intro j
  rw [Nat.testBit_and, show (256 : Nat) = 2 ^ 8 from rfl, Nat.testBit_two_pow_mul_add _ ha, Nat.testBit_two_pow_mul_add _ hm, Nat.testBit_two_pow_mul_add _ hb]
  by_cases q : j < 8
  · rw [if_pos q, if_pos q, if_pos q, Nat.testBit_and]
  · rw [if_neg q, if_neg q, if_neg q, Nat.testBit_and]
theorem ushr_nI {x k : Nat} (hx : x < 4294967296) (hk : k < 32) : ushr (nI x) (nI k) = nI (x / 2 ^ k) := by
  apply b_ext; intro i hi
  unfold ushr
  rw [b_ushr k hk, bt_nI, bt_nI, Nat.testBit_div_two_pow]
  by_cases q : k + i < 32
  · simp [q, hi, Nat.add_comm]
  · have : x.testBit (i + k) = false := Nat.testBit_lt_two_pow (Nat.lt_of_lt_of_le hx (by rw [show (4294967296 : Nat) = 2 ^ 32 from rfl]; exact Nat.pow_le_pow_right (by omega) (by omega)))
    simp [q, this]
def w4 (a b c d : Nat) : Nat := 256 * (256 * (256 * d + c) + b) + a
theorem w4_and {a b c d m : Nat} (ha : a < 256) (hb : b < 256) (hc : c < 256) (hd : d < 256) (hm : m < 256) : w4 a b c d &&& w4 m m m m = w4 (a &&& m) (b &&& m) (c &&& m) (d &&& m) := by
  unfold w4
  rw [and8 ha hm, and8 hb hm, and8 hc hm]
def t1 (a : Nat) : Nat := (a / 2) &&& 85
def t2 (a : Nat) : Nat := a - t1 a
def t3 (a : Nat) : Nat := (t2 a &&& 51) + ((t2 a / 4) &&& 51)
def t4 (a : Nat) : Nat := (t3 a + t3 a / 16) &&& 15
theorem t1_e : ∀ a, a < 256 → ∀ e, e < 2 → ((a / 2 + 128 * e) &&& 85) = t1 a := by decide +kernel
theorem t2_e : ∀ a, a < 256 → t1 a ≤ a ∧ t2 a < 256 ∧ ∀ e, e < 4 → ((t2 a / 4 + 64 * e) &&& 51) = ((t2 a / 4) &&& 51) := by decide +kernel
theorem t3_e : ∀ a, a < 256 → t3 a < 80 ∧ t3 a % 16 ≤ 4 ∧ ∀ e, e < 5 → ((t3 a + t3 a / 16 + 16 * e) &&& 15) = t4 a := by decide +kernel
theorem t4_e : ∀ a, a < 256 → t4 a = cnt (fun k => a.testBit k) 8 ∧ t4 a ≤ 8 := by decide +kernel
theorem bcW_4 {a b c d : Nat} (ha : a < 256) (hb : b < 256) (hc : c < 256) (hd : d < 256) : bcW (nI (w4 a b c d)) = nI (t4 a + t4 b + t4 c + t4 d) := by
  obtain ⟨a1, a2, a3⟩ := t2_e a ha
  obtain ⟨b1, b2, b3⟩ := t2_e b hb
  obtain ⟨c1, c2, c3⟩ := t2_e c hc
  obtain ⟨d1, d2, d3⟩ := t2_e d hd
  obtain ⟨a4, a5, a6⟩ := t3_e a ha
  obtain ⟨b4, b5, b6⟩ := t3_e b hb
  obtain ⟨c4, c5, c6⟩ := t3_e c hc
  obtain ⟨d4, d5, d6⟩ := t3_e d hd
  have a7 := (t4_e a ha).2
  have b7 := (t4_e b hb).2
  have c7 := (t4_e c hc).2
  have d7 := (t4_e d hd).2
  have s1 : w4 a b c d / 2 = w4 (a / 2 + 128 * (b % 2)) (b / 2 + 128 * (c % 2)) (c / 2 + 128 * (d % 2)) (d / 2 + 128 * 0) := by unfold w4; omega
  have e1 : nI (w4 a b c d) - ((ushr (nI (w4 a b c d)) (1 : Int32)) &&& (1431655765 : Int32)) = nI (w4 (t2 a) (t2 b) (t2 c) (t2 d)) := by
    rw [show (1 : Int32) = nI 1 from rfl, ushr_nI (by unfold w4; omega) (by omega), show (1431655765 : Int32) = nI (w4 85 85 85 85) from rfl, nx_and, show 2 ^ 1 = 2 from rfl, s1, w4_and (by omega) (by omega) (by omega) (by omega) (by omega), t1_e a ha _ (by omega), t1_e b hb _ (by omega), t1_e c hc _ (by omega), t1_e d hd _ (by omega), nI_subN (by unfold w4; omega)]
    congr 1
    unfold t2 w4
    omega
  have s2 : w4 (t2 a) (t2 b) (t2 c) (t2 d) / 4 = w4 (t2 a / 4 + 64 * (t2 b % 4)) (t2 b / 4 + 64 * (t2 c % 4)) (t2 c / 4 + 64 * (t2 d % 4)) (t2 d / 4 + 64 * 0) := by unfold w4; omega
  have e2 : (nI (w4 (t2 a) (t2 b) (t2 c) (t2 d)) &&& (858993459 : Int32)) + ((ushr (nI (w4 (t2 a) (t2 b) (t2 c) (t2 d))) (2 : Int32)) &&& (858993459 : Int32)) = nI (w4 (t3 a) (t3 b) (t3 c) (t3 d)) := by
    rw [show (2 : Int32) = nI 2 from rfl, ushr_nI (by unfold w4; omega) (by omega), show (858993459 : Int32) = nI (w4 51 51 51 51) from rfl, nx_and, nx_and, show 2 ^ 2 = 4 from rfl, s2, w4_and a2 b2 c2 d2 (by omega), w4_and (by omega) (by omega) (by omega) (by omega) (by omega), a3 _ (by omega), b3 _ (by omega), c3 _ (by omega), d3 _ (by omega), nI_add]
    congr 1
    unfold t3 w4
    omega
  have s3 : w4 (t3 a) (t3 b) (t3 c) (t3 d) + w4 (t3 a) (t3 b) (t3 c) (t3 d) / 16 = w4 (t3 a + t3 a / 16 + 16 * (t3 b % 16)) (t3 b + t3 b / 16 + 16 * (t3 c % 16)) (t3 c + t3 c / 16 + 16 * (t3 d % 16)) (t3 d + t3 d / 16 + 16 * 0) := by unfold w4; omega
  have e3 : (nI (w4 (t3 a) (t3 b) (t3 c) (t3 d)) + (ushr (nI (w4 (t3 a) (t3 b) (t3 c) (t3 d))) (4 : Int32))) &&& (252645135 : Int32) = nI (w4 (t4 a) (t4 b) (t4 c) (t4 d)) := by
    rw [show (4 : Int32) = nI 4 from rfl, ushr_nI (by unfold w4; omega) (by omega), show (252645135 : Int32) = nI (w4 15 15 15 15) from rfl, nI_add, nx_and, show 2 ^ 4 = 16 from rfl, s3, w4_and (by omega) (by omega) (by omega) (by omega) (by omega), a6 _ (by omega), b6 _ (by omega), c6 _ (by omega), d6 _ (by omega)]
  have e4 : nI (w4 (t4 a) (t4 b) (t4 c) (t4 d)) + (ushr (nI (w4 (t4 a) (t4 b) (t4 c) (t4 d))) (8 : Int32)) = nI (w4 (t4 a + t4 b) (t4 b + t4 c) (t4 c + t4 d) (t4 d)) := by
    rw [show (8 : Int32) = nI 8 from rfl, ushr_nI (by unfold w4; omega) (by omega), nI_add]
    congr 1
    unfold w4
    omega
  have e5 : nI (w4 (t4 a + t4 b) (t4 b + t4 c) (t4 c + t4 d) (t4 d)) + (ushr (nI (w4 (t4 a + t4 b) (t4 b + t4 c) (t4 c + t4 d) (t4 d))) (16 : Int32)) = nI (w4 (t4 a + t4 b + (t4 c + t4 d)) (t4 b + t4 c + t4 d) (t4 c + t4 d) (t4 d)) := by
    rw [show (16 : Int32) = nI 16 from rfl, ushr_nI (by unfold w4; omega) (by omega), nI_add]
    congr 1
    unfold w4
    omega
  have eV : bcV (nI (w4 a b c d)) = nI (w4 (t4 a + t4 b) (t4 b + t4 c) (t4 c + t4 d) (t4 d)) := by
    unfold bcV
    rw [e1, e2, e3, e4]
  unfold bcW
  rw [eV, e5, show (63 : Int32) = nI 63 from rfl, nx_and, show (63 : Nat) = 2 ^ 6 - 1 from rfl, Nat.and_two_pow_sub_one_eq_mod]
  congr 1
  unfold w4
  omega
theorem bcW_g (x : Int32) : bcW x = nI (cnt (bt x) 32) := by
  have hx : x = nI x.toBitVec.toNat := by
    apply Int32.toBitVec_inj.mp
    show x.toBitVec = BitVec.ofNat 32 x.toBitVec.toNat
    simp
  have hlt : x.toBitVec.toNat < 4294967296 := x.toBitVec.isLt
  have hb : ∀ k, k < 32 → bt x k = x.toBitVec.toNat.testBit k := fun k _ => rfl
  generalize x.toBitVec.toNat = v at hx hlt hb
  have e : v = w4 (v % 256) (v / 256 % 256) (v / 65536 % 256) (v / 16777216) := by unfold w4; omega
  have t : ∀ j, j < 4 → ∀ k, k < 8 → v.testBit (8 * j + k) = (v / 2 ^ (8 * j) % 256).testBit k := fun j _ k hk => by
    rw [show (256 : Nat) = 2 ^ 8 from rfl, Nat.testBit_mod_two_pow, Nat.testBit_div_two_pow, Nat.add_comm k]
    simp [hk]
  rw [hx, e, bcW_4 (by omega) (by omega) (by omega) (by omega), ← e, ← hx]
  congr 1
  rw [(t4_e _ (by omega)).1, (t4_e _ (by omega)).1, (t4_e _ (by omega)).1, (t4_e _ (by omega)).1]
  rw [cnt_ext (g := fun k => v.testBit k) 32 hb, show 32 = 8 + 8 + 8 + 8 from rfl, cnt_add, cnt_add, cnt_add]
  congr 1
  · congr 1
    · congr 1
      · exact cnt_ext 8 fun k hk => by have := t 0 (by omega) k hk; simpa using this.symm
      · exact cnt_ext 8 fun k hk => by have := t 1 (by omega) k hk; simpa using this.symm
    · exact cnt_ext 8 fun k hk => by have := t 2 (by omega) k hk; simpa using this.symm
  · exact cnt_ext 8 fun k hk => by
      have := t 3 (by omega) k hk
      rw [show v / 2 ^ (8 * 3) % 256 = v / 16777216 by omega] at this
      exact this.symm
theorem bitCount_g (x : Int32) (M : SM) : qjI_bitCount x M = some (nI (cnt (bt x) 32), M) := by rw [bitCount_eq, bcW_g]
/-- one bit of a number -/
theorem bitc (y : Int32) {x : Nat} (hx : x < 32) : (y >>> (nI x &&& 31)) &&& (1 : Int32) = if bt y x = true then 1 else 0 := by
  apply b_ext; intro j hj
  rw [b_and, b_sshr x hx _ hj, show (1 : Int32) = nI 1 from rfl, bt_nI]
  by_cases q : j = 0
  · subst q
    rw [if_pos (by omega), Nat.add_zero]
    by_cases h : bt y x = true
    · rw [if_pos h, h, bt_nI]; rfl
    · rw [if_neg h]; simp at h; rw [h]; rfl
  · have e1 : (1 : Nat).testBit j = false := by
      rw [show (1 : Nat) = 2 ^ 0 from rfl, Nat.testBit_two_pow]; simp; omega
    rw [e1]
    by_cases h : bt y x = true
    · rw [if_pos h, bt_nI, e1]; simp
    · rw [if_neg h, b_0]; simp
