/-! sets of bits -/
theorem zb_ext {x y : Int64} (h : ∀ i, i < 64 → zb x i = zb y i) : x = y := Int64.toBitVec_inj.mp (BitVec.eq_of_getLsbD_eq (fun i hi => h i hi))
theorem zb_big {x : Int64} {i : Nat} (h : 64 ≤ i) : zb x i = false := BitVec.getLsbD_of_ge _ _ h
theorem zb_or (x y : Int64) (i : Nat) : zb (x ||| y) i = (zb x i || zb y i) := by unfold zb; rw [Int64.toBitVec_or, BitVec.getLsbD_or]
theorem zb_and (x y : Int64) (i : Nat) : zb (x &&& y) i = (zb x i && zb y i) := by unfold zb; rw [Int64.toBitVec_and, BitVec.getLsbD_and]
theorem zb_xor (x y : Int64) (i : Nat) : zb (x ^^^ y) i = (zb x i ^^ zb y i) := by unfold zb; rw [Int64.toBitVec_xor, BitVec.getLsbD_xor]
theorem zb_m1 : ∀ i, i < 64 → zb (-1) i = true := by decide +kernel
theorem zb_1 (i : Nat) : zb 1 i = decide (i = 0) := by
  rcases Nat.lt_or_ge i 64 with h | h
  · exact (by decide +kernel : ∀ i, i < 64 → zb 1 i = decide (i = 0)) i h
  · rw [zb_big h, decide_eq_false (by omega)]
theorem sl64 : ∀ n, n < 64 → ((Int32.toInt64 (nI n) &&& 63).toBitVec.smod 64).toNat = n := by decide +kernel
theorem su64 : ∀ n, n < 64 → ((Int64.toUInt64 (Int32.toInt64 (nI n)) &&& Int64.toUInt64 63).toBitVec % 64).toNat = n := by decide +kernel
theorem zb_shl {n : Nat} (hn : n < 64) (x : Int64) {i : Nat} (hi : i < 64) : zb (x <<< (Int32.toInt64 (nI n) &&& 63)) i = (decide (n ≤ i) && zb x (i - n)) := by
  unfold zb
  rw [Int64.toBitVec_shiftLeft]
  show (x.toBitVec <<< ((Int32.toInt64 (nI n) &&& 63).toBitVec.smod 64).toNat).getLsbD i = _
  rw [sl64 n hn, BitVec.getLsbD_shiftLeft]
  rcases Nat.lt_or_ge i n with h | h
  · simp [h, Nat.not_le.mpr h]
  · simp [hi, h, Nat.not_lt.mpr h]
theorem zb_ushr {n : Nat} (hn : n < 64) (x : Int64) (i : Nat) : zb ((Int64.toUInt64 x >>> (Int64.toUInt64 (Int32.toInt64 (nI n)) &&& Int64.toUInt64 63)).toInt64) i = zb x (n + i) := by
  show (Int64.toUInt64 x >>> (Int64.toUInt64 (Int32.toInt64 (nI n)) &&& Int64.toUInt64 63)).toBitVec.getLsbD i = (Int64.toUInt64 x).toBitVec.getLsbD (n + i)
  rw [UInt64.toBitVec_shiftRight]
  show ((Int64.toUInt64 x).toBitVec >>> ((Int64.toUInt64 (Int32.toInt64 (nI n)) &&& Int64.toUInt64 63).toBitVec % 64).toNat).getLsbD i = _
  rw [su64 n hn, BitVec.getLsbD_ushiftRight]
theorem zb_sshr {n : Nat} (hn : n < 64) (x : Int64) {i : Nat} (hi : n + i < 64) : zb (x >>> (Int32.toInt64 (nI n) &&& 63)) i = zb x (n + i) := by
  unfold zb
  rw [Int64.toBitVec_shiftRight]
  show (x.toBitVec.sshiftRight ((Int32.toInt64 (nI n) &&& 63).toBitVec.smod 64).toNat).getLsbD i = _
  rw [sl64 n hn, BitVec.getLsbD_sshiftRight]
  simp [hi, show i < 64 by omega]
theorem zb_b1 {p : Nat} (hp : p < 64) (i : Nat) : zb (b1 p) i = decide (i = p) := by
  rcases Nat.lt_or_ge i 64 with h | h
  · unfold b1
    rw [zb_shl hp _ h, zb_1]
    by_cases h2 : i = p
    · subst h2; simp
    · by_cases h3 : p ≤ i
      · have : ¬ (i - p = 0) := by omega
        simp [h2, this]
      · simp [h2, h3]
  · rw [zb_big h, decide_eq_false (by omega)]
theorem z_ne0 {x : Int64} : x ≠ 0 ↔ ∃ i, i < 64 ∧ zb x i = true := by
  constructor
  · intro h
    apply Classical.byContradiction
    intro hn
    refine h (zb_ext fun i hi => ?_)
    rw [zb_0]
    cases hb : zb x i
    · rfl
    · exact absurd ⟨i, hi, hb⟩ hn
  · rintro ⟨i, -, h⟩ rfl
    rw [zb_0] at h
    exact absurd h (by decide)
theorem z_and1 {x : Int64} : x &&& 1 = if zb x 0 = true then 1 else 0 := by
  apply zb_ext
  intro i hi
  rw [zb_and, zb_1]
  by_cases h : i = 0
  · subst h
    cases hb : zb x 0
    · simp [zb_0]
    · simp [zb_1]
  · cases hb : zb x 0
    · simp [h, zb_0]
    · simp [h, zb_1]
/-- a bit is asked for, in the three ways in which it is -/
theorem t_u {x : Int64} {n : Nat} (hn : n < 64) : (lg_cmp (((Int64.toUInt64 x >>> (Int64.toUInt64 (Int32.toInt64 (nI n)) &&& Int64.toUInt64 63)).toInt64) &&& (1 : Int64)) (0 : Int64) = nI 0) = (zb x n = false) := by
  show (lg_cmp (((Int64.toUInt64 x >>> (Int64.toUInt64 (Int32.toInt64 (nI n)) &&& Int64.toUInt64 63)).toInt64) &&& (1 : Int64)) (0 : Int64) = 0) = _
  rw [z_and1, zb_ushr hn, Nat.add_zero, lgc_eq]
  cases zb x n
  · simp
  · simp
theorem t_s {x : Int64} {n : Nat} (hn : n < 64) : (lg_cmp ((x >>> (Int32.toInt64 (nI n) &&& 63)) &&& (1 : Int64)) (1 : Int64) = nI 0) = (zb x n = true) := by
  show (lg_cmp ((x >>> (Int32.toInt64 (nI n) &&& 63)) &&& (1 : Int64)) (1 : Int64) = 0) = _
  rw [z_and1, zb_sshr hn _ (by omega), Nat.add_zero, lgc_eq]
  cases zb x n
  · simp
  · simp
theorem t_0 {x : Int64} : (lg_cmp (x &&& (1 : Int64)) (0 : Int64) = nI 0) = (zb x 0 = false) := by
  show (lg_cmp (x &&& (1 : Int64)) (0 : Int64) = 0) = _
  rw [z_and1, lgc_eq]
  cases zb x 0
  · simp
  · simp
theorem t_n {x : Int64} : (lg_cmp x (0 : Int64) = nI 0) = (x = 0) := by show (lg_cmp x (0 : Int64) = 0) = _; rw [lgc_eq]
theorem n_mod (v k : Nat) : v - v / k * k = v % k := by
  have := Nat.div_add_mod v k
  rw [Nat.mul_comm] at this
  omega
theorem nI_10 : nI 0 ≠ nI 1 ∧ nI 1 ≠ nI 0 := by decide
theorem zb_orU {f : Nat → Int64} {i : Nat} : ∀ {n : Nat}, zb (orU f n) i = true ↔ ∃ k, k < n ∧ zb (f k) i = true
  | 0 => by
    unfold orU
    rw [zb_0]
    exact ⟨fun h => absurd h (by decide), fun ⟨k, hk, _⟩ => absurd hk (by omega)⟩
  | n + 1 => by
    unfold orU
    rw [zb_or, Bool.or_eq_true, zb_orU (n := n)]
    constructor
    · rintro (⟨k, h1, h2⟩ | h)
      · exact ⟨k, by omega, h2⟩
      · exact ⟨n, by omega, h⟩
    · rintro ⟨k, h1, h2⟩
      by_cases h : k = n
      · subst h; exact Or.inr h2
      · exact Or.inl ⟨k, by omega, h2⟩
theorem orU_congr {f g : Nat → Int64} : ∀ {n : Nat}, (∀ k, k < n → f k = g k) → orU f n = orU g n
  | 0, _ => rfl
  | n + 1, h => by
    unfold orU
    rw [orU_congr (n := n) (fun k hk => h k (by omega)), h n (by omega)]
theorem zb_ite {c : Prop} [Decidable c] {x : Int64} {i : Nat} : (zb (if c then x else 0) i = true) = (c ∧ zb x i = true) := by
  by_cases h : c
  · simp [h]
  · simp [h, zb_0]
/-- how many there are -/
def cnt (f : Nat → Bool) : Nat → Nat
  | 0 => 0
  | n + 1 => cnt f n + (f n).toNat
theorem cnt_le {f : Nat → Bool} : ∀ n, cnt f n ≤ n
  | 0 => Nat.le_refl 0
  | n + 1 => by
    have := cnt_le (f := f) n
    have h2 := Bool.toNat_le (f n)
    unfold cnt
    omega
theorem cnt_congr {f g : Nat → Bool} : ∀ {n : Nat}, (∀ k, k < n → f k = g k) → cnt f n = cnt g n
  | 0, _ => rfl
  | n + 1, h => by
    unfold cnt
    rw [cnt_congr (n := n) (fun k hk => h k (by omega)), h n (by omega)]
theorem cnt_add {f : Nat → Bool} {a : Nat} : ∀ b, cnt f (a + b) = cnt f a + cnt (fun i => f (a + i)) b
  | 0 => rfl
  | b + 1 => by
    show cnt f (a + b) + (f (a + b)).toNat = cnt f a + (cnt (fun i => f (a + i)) b + (f (a + b)).toNat)
    rw [cnt_add b]
    omega
theorem cnt_pos {f : Nat → Bool} : ∀ {n : Nat}, 0 < cnt f n ↔ ∃ k, k < n ∧ f k = true
  | 0 => ⟨fun h => absurd h (Nat.lt_irrefl 0), fun ⟨k, h, _⟩ => absurd h (by omega)⟩
  | n + 1 => by
    show 0 < cnt f n + (f n).toNat ↔ _
    constructor
    · intro h
      by_cases h2 : 0 < cnt f n
      · obtain ⟨k, h3, h4⟩ := cnt_pos.mp h2
        exact ⟨k, by omega, h4⟩
      · refine ⟨n, by omega, ?_⟩
        cases hf : f n
        · rw [hf] at h; simp at h; omega
        · rfl
    · rintro ⟨k, h1, h2⟩
      by_cases h : k = n
      · subst h; rw [h2]; simp
      · have := cnt_pos (f := f) (n := n) |>.mpr ⟨k, by omega, h2⟩
        omega
/-! the number of bits of a word -/
def uN (x : Int64) : Nat := x.toBitVec.toNat
theorem uN_lt (x : Int64) : uN x < 2 ^ 64 := x.toBitVec.isLt
theorem zb_uN (x : Int64) (i : Nat) : zb x i = (uN x).testBit i := rfl
theorem uN_and (x y : Int64) : uN (x &&& y) = uN x &&& uN y := by
  unfold uN; rw [Int64.toBitVec_and, BitVec.toNat_and]
theorem uN_add {x y : Int64} (h : uN x + uN y < 2 ^ 64) : uN (x + y) = uN x + uN y := by
  unfold uN at *; rw [Int64.toBitVec_add, BitVec.toNat_add, Nat.mod_eq_of_lt h]
theorem uN_sub {x y : Int64} (h : uN y ≤ uN x) : uN (x - y) = uN x - uN y := by
  have e : x = (x - y) + y := (Int64.sub_add_cancel x y).symm
  unfold uN at *
  rw [Int64.toBitVec_sub, BitVec.toNat_sub]
  have h1 := x.toBitVec.isLt
  have h2 := y.toBitVec.isLt
  rw [show 2 ^ 64 - y.toBitVec.toNat + x.toBitVec.toNat = (x.toBitVec.toNat - y.toBitVec.toNat) + 2 ^ 64 by omega, Nat.add_mod_right, Nat.mod_eq_of_lt (by omega)]
theorem uN_ushr {n : Nat} (hn : n < 64) (x : Int64) : uN ((Int64.toUInt64 x >>> (Int64.toUInt64 (Int32.toInt64 (nI n)) &&& Int64.toUInt64 63)).toInt64) = uN x / 2 ^ n := by
  apply Nat.eq_of_testBit_eq
  intro i
  rw [← zb_uN, zb_ushr hn, Nat.testBit_div_two_pow, ← zb_uN, Nat.add_comm]
/-- the same byte so many times -/
def mk (c : Nat) : Nat → Nat
  | 0 => 0
  | k + 1 => c + 256 * mk c k
theorem land_lane {a b x y : Nat} (ha : a < 256) (hb : b < 256) : (a + 256 * x) &&& (b + 256 * y) = (a &&& b) + 256 * (x &&& y) := by
  apply Nat.eq_of_testBit_eq
  intro i
  have hab : a &&& b < 2 ^ 8 := Nat.and_lt_two_pow a hb
  have e : ∀ (a x : Nat), a < 2 ^ 8 → (a + 256 * x).testBit i = if i < 8 then a.testBit i else x.testBit (i - 8) := by
    intro a x h
    rw [Nat.add_comm, show (256 : Nat) = 2 ^ 8 from rfl]
    exact Nat.testBit_two_pow_mul_add x h i
  rw [Nat.testBit_and, e a x ha, e b y hb, e _ _ hab, Nat.testBit_and, Nat.testBit_and]
  split <;> rfl
/-- of a number so many bytes long: what each step makes of it -/
def bts8 (g : Nat → Nat) : Nat → Nat → Nat
  | 0, _ => 0
  | k + 1, x => g (x % 256) + 256 * bts8 g k (x / 256)
theorem bts8_le {g h : Nat → Nat} (H : ∀ b, b < 256 → g b ≤ h b) : ∀ k x, bts8 g k x ≤ bts8 h k x
  | 0, _ => Nat.le_refl 0
  | k + 1, x => by
    have h1 := H (x % 256) (Nat.mod_lt _ (by decide))
    have h2 := bts8_le H k (x / 256)
    unfold bts8
    omega
theorem bts8_id : ∀ k x, x < 256 ^ k → bts8 (fun b => b) k x = x
  | 0, x, h => by simp at h; subst h; rfl
  | k + 1, x, h => by
    unfold bts8
    rw [bts8_id k (x / 256) (by rw [Nat.pow_succ] at h; omega)]
    omega
theorem bts8_comp {f g : Nat → Nat} (H : ∀ b, b < 256 → g b < 256) : ∀ k x, bts8 f k (bts8 g k x) = bts8 (fun b => f (g b)) k x
  | 0, _ => rfl
  | k + 1, x => by
    have h1 := H (x % 256) (Nat.mod_lt _ (by decide))
    show f ((g (x % 256) + 256 * bts8 g k (x / 256)) % 256) + 256 * bts8 f k ((g (x % 256) + 256 * bts8 g k (x / 256)) / 256) = f (g (x % 256)) + 256 * bts8 (fun b => f (g b)) k (x / 256)
    rw [show (g (x % 256) + 256 * bts8 g k (x / 256)) % 256 = g (x % 256) by omega, show (g (x % 256) + 256 * bts8 g k (x / 256)) / 256 = bts8 g k (x / 256) by omega, bts8_comp H k]
theorem bts8_add {f g : Nat → Nat} : ∀ k x, bts8 f k x + bts8 g k x = bts8 (fun b => f b + g b) k x
  | 0, _ => rfl
  | k + 1, x => by
    have := bts8_add (f := f) (g := g) k (x / 256)
    unfold bts8
    omega
theorem bts8_sub {f g : Nat → Nat} (H : ∀ b, b < 256 → g b ≤ f b) : ∀ k x, bts8 f k x - bts8 g k x = bts8 (fun b => f b - g b) k x
  | 0, _ => rfl
  | k + 1, x => by
    have h1 := H (x % 256) (Nat.mod_lt _ (by decide))
    have h2 := bts8_sub H k (x / 256)
    have h3 := bts8_le H k (x / 256)
    unfold bts8
    omega
theorem bts8_and {c : Nat} (hc : c < 256) : ∀ k x, x &&& mk c k = bts8 (fun b => b &&& c) k x
  | 0, x => Nat.and_zero x
  | k + 1, x => by
    unfold bts8 mk
    rw [← bts8_and hc k (x / 256), ← land_lane (Nat.mod_lt _ (by decide)) hc]
    congr 1
    omega
theorem bts8_congr {f g : Nat → Nat} (H : ∀ b, b < 256 → f b = g b) : ∀ k x, bts8 f k x = bts8 g k x
  | 0, _ => rfl
  | k + 1, x => by
    unfold bts8
    rw [H _ (Nat.mod_lt _ (by decide)), bts8_congr H k]
/-- a shift within the bytes, where the mask takes away what comes from the next one -/
theorem bts8_sh {s c : Nat} (hc : c < 256) (hs : 2 ^ s * 2 ^ (8 - s) = 256) (H : ∀ b, b < 256 → ∀ r, r < 2 ^ s → (b / 2 ^ s + 2 ^ (8 - s) * r) &&& c = (b / 2 ^ s) &&& c) : ∀ k x, (x / 2 ^ s) &&& mk c k = bts8 (fun b => (b / 2 ^ s) &&& c) k x
  | 0, x => Nat.and_zero _
  | k + 1, x => by
    have hp : 0 < 2 ^ s := Nat.pow_pos (by decide)
    have hq : 0 < 2 ^ (8 - s) := Nat.pow_pos (by decide)
    unfold bts8 mk
    rw [← bts8_sh hc hs H k (x / 256), ← H (x % 256) (Nat.mod_lt _ (by decide)) (x / 256 % 2 ^ s) (Nat.mod_lt _ hp), ← land_lane ?_ hc]
    · congr 1
      have e1 : x / 256 = 2 ^ s * (x / 256 / 2 ^ s) + x / 256 % 2 ^ s := (Nat.div_add_mod _ _).symm
      have e2 : x = 256 * (x / 256) + x % 256 := (Nat.div_add_mod _ _).symm
      generalize hY : x / 256 / 2 ^ s = Y at *
      generalize hR : x / 256 % 2 ^ s = R at *
      generalize hB : x % 256 = Bb at *
      generalize hX : x / 256 = X at *
      rw [e2, e1, Nat.mul_add, ← hs]
      rw [show 2 ^ s * 2 ^ (8 - s) * (2 ^ s * Y) + 2 ^ s * 2 ^ (8 - s) * R + Bb = Bb + 2 ^ s * (2 ^ (8 - s) * R + 2 ^ s * 2 ^ (8 - s) * Y) by
        simp only [Nat.mul_add, Nat.mul_assoc, Nat.mul_comm, Nat.mul_left_comm]; omega]
      rw [Nat.add_mul_div_left _ _ hp]
      omega
    · have h1 : x / 256 % 2 ^ s < 2 ^ s := Nat.mod_lt _ hp
      have h2 : x % 256 / 2 ^ s < 2 ^ (8 - s) := by
        rw [Nat.div_lt_iff_lt_mul hp, Nat.mul_comm, hs]
        exact Nat.mod_lt _ (by decide)
      have h3 : 2 ^ (8 - s) * (x / 256 % 2 ^ s + 1) ≤ 2 ^ (8 - s) * 2 ^ s := Nat.mul_le_mul_left _ h1
      rw [Nat.mul_comm (2 ^ (8 - s)) (2 ^ s), hs, Nat.mul_add] at h3
      omega
/-- the count of a byte -/
def cb (b : Nat) : Nat := cnt (fun i => b.testBit i) 8
theorem cnt_bytes : ∀ k x, cnt (fun i => x.testBit i) (8 * k) = (List.range k).foldr (fun j s => cb (x / 256 ^ j % 256) + s) 0
  | 0, _ => rfl
  | k + 1, x => by
    rw [show 8 * (k + 1) = 8 + 8 * k by omega, cnt_add, List.range_succ_eq_map, List.foldr_cons, List.foldr_map]
    have e1 : cnt (fun i => x.testBit i) 8 = cb (x / 256 ^ 0 % 256) := by
      unfold cb
      apply cnt_congr
      intro i hi
      rw [Nat.pow_zero, Nat.div_one, show (256 : Nat) = 2 ^ 8 from rfl, Nat.testBit_mod_two_pow]
      simp [hi]
    have e2 : cnt (fun i => x.testBit (8 + i)) (8 * k) = cnt (fun i => (x / 256).testBit i) (8 * k) := by
      apply cnt_congr
      intro i hi
      rw [show (256 : Nat) = 2 ^ 8 from rfl, Nat.testBit_div_two_pow, Nat.add_comm]
    rw [e1, e2, cnt_bytes k]
    congr 2
    funext j s
    rw [Nat.div_div_eq_div_mul, Nat.succ_eq_add_one, Nat.pow_succ, Nat.mul_comm 256]
theorem bts8_8 (g : Nat → Nat) (x : Nat) : bts8 g 8 x = g (x % 256) + 256 * (g (x / 256 % 256) + 256 * (g (x / 65536 % 256) + 256 * (g (x / 16777216 % 256) + 256 * (g (x / 4294967296 % 256) + 256 * (g (x / 1099511627776 % 256) + 256 * (g (x / 281474976710656 % 256) + 256 * g (x / 72057594037927936 % 256))))))) := by
  simp only [bts8, Nat.div_div_eq_div_mul, Nat.reduceMul, Nat.mul_zero, Nat.add_zero]
theorem cb_le (b : Nat) : cb b ≤ 8 := cnt_le 8
theorem toI32 (x : Int64) : Int64.toInt32 x &&& nI 127 = nI (uN x % 128) := by
  apply Int32.toBitVec_inj.mp
  apply BitVec.eq_of_getLsbD_eq
  intro i hi
  rw [Int32.toBitVec_and, BitVec.getLsbD_and]
  have e1 : (Int64.toInt32 x).toBitVec.getLsbD i = (uN x).testBit i := by
    show (x.toBitVec.signExtend 32).getLsbD i = _
    rw [BitVec.getLsbD_signExtend]
    simp only [hi, decide_true, Bool.true_and, show i < 64 by omega, if_true]
    rfl
  have e2 : (nI 127).toBitVec.getLsbD i = decide (i < 7) := (by decide +kernel : ∀ i, i < 32 → (nI 127).toBitVec.getLsbD i = decide (i < 7)) i hi
  have e3 : (nI (uN x % 128)).toBitVec.getLsbD i = (uN x % 128).testBit i := by
    show (BitVec.ofNat 32 (uN x % 128)).getLsbD i = _
    rw [BitVec.getLsbD_ofNat]; simp [hi]
  rw [e1, e2, e3, show (128 : Nat) = 2 ^ 7 from rfl, Nat.testBit_mod_two_pow, Bool.and_comm]
theorem bts8_15 {f : Nat → Nat} (H : ∀ b, b < 256 → f b ≤ 68 ∧ f b % 16 ≤ 4) : ∀ k x, (bts8 f k x + bts8 f k x / 16) &&& mk 15 k = bts8 (fun b => (f b + f b / 16) &&& 15) k x
  | 0, _ => Nat.and_zero _
  | k + 1, x => by
    have h1 := H (x % 256) (Nat.mod_lt _ (by decide))
    have h2 : bts8 f k (x / 256) % 16 ≤ 4 := by
      cases k with
      | zero => exact Nat.zero_le _
      | succ k =>
        have := (H (x / 256 % 256) (Nat.mod_lt _ (by decide))).2
        unfold bts8
        omega
    have ih := bts8_15 H k (x / 256)
    show (f (x % 256) + 256 * bts8 f k (x / 256) + (f (x % 256) + 256 * bts8 f k (x / 256)) / 16) &&& (15 + 256 * mk 15 k) = ((f (x % 256) + f (x % 256) / 16) &&& 15) + 256 * bts8 (fun b => (f b + f b / 16) &&& 15) k (x / 256)
    rw [← ih]
    generalize f (x % 256) = b at *
    generalize bts8 f k (x / 256) = Y at *
    rw [show b + 256 * Y + (b + 256 * Y) / 16 = (b + b / 16 + 16 * (Y % 16)) + 256 * (Y + Y / 16) by omega, land_lane (by omega) (by decide)]
    congr 1
    rw [show (15 : Nat) = 2 ^ 4 - 1 from rfl, Nat.and_two_pow_sub_one_eq_mod, Nat.and_two_pow_sub_one_eq_mod]
    omega
def f1 (b : Nat) : Nat := b - (b / 2 &&& 85)
def f2 (b : Nat) : Nat := (f1 b &&& 51) + (f1 b / 4 &&& 51)
theorem f_steps : ∀ b, b < 256 → (b / 2 &&& 85) ≤ b ∧ f1 b < 256 ∧ f2 b ≤ 68 ∧ f2 b % 16 ≤ 4 ∧ ((f2 b + f2 b / 16) &&& 15) = cb b := by decide +kernel
theorem sw1 (x : Int64) : uN (x - (((Int64.toUInt64 x >>> (Int64.toUInt64 (Int32.toInt64 (nI 1)) &&& Int64.toUInt64 63)).toInt64) &&& (6148914691236517205 : Int64))) = bts8 f1 8 (uN x) := by
  have c1 : uN (6148914691236517205 : Int64) = mk 85 8 := by decide +kernel
  have s1 : ∀ k y, (y / 2 ^ 1) &&& mk 85 k = bts8 (fun b => (b / 2 ^ 1) &&& 85) k y := bts8_sh (by decide) (by decide) (by decide +kernel)
  have e : uN (((Int64.toUInt64 x >>> (Int64.toUInt64 (Int32.toInt64 (nI 1)) &&& Int64.toUInt64 63)).toInt64) &&& (6148914691236517205 : Int64)) = bts8 (fun b => b / 2 &&& 85) 8 (uN x) := by
    rw [uN_and, uN_ushr (by decide), c1, s1]
  have hx : bts8 (fun b => b) 8 (uN x) = uN x := bts8_id 8 _ (uN_lt x)
  have hle := bts8_le (g := fun b => b / 2 &&& 85) (h := fun b => b) (fun b hb => (f_steps b hb).1) 8 (uN x)
  have hsub := bts8_sub (f := fun b => b) (g := fun b => b / 2 &&& 85) (fun b hb => (f_steps b hb).1) 8 (uN x)
  rw [hx] at hle hsub
  rw [uN_sub (by rw [e]; exact hle), e, hsub]
  rfl
theorem bts8_top {f : Nat → Nat} {c : Nat} (H : ∀ b, b < 256 → f b ≤ c) (x : Nat) : bts8 f 8 x ≤ bts8 (fun _ => c) 8 x := bts8_le H 8 x
theorem sw2 {y : Int64} {n : Nat} (h : uN y = bts8 f1 8 n) : uN ((y &&& (3689348814741910323 : Int64)) + (((Int64.toUInt64 y >>> (Int64.toUInt64 (Int32.toInt64 (nI 2)) &&& Int64.toUInt64 63)).toInt64) &&& (3689348814741910323 : Int64))) = bts8 f2 8 n := by
  have c2 : uN (3689348814741910323 : Int64) = mk 51 8 := by decide +kernel
  have s2 : ∀ k y, (y / 2 ^ 2) &&& mk 51 k = bts8 (fun b => (b / 2 ^ 2) &&& 51) k y := bts8_sh (by decide) (by decide) (by decide +kernel)
  have e1 : uN (y &&& (3689348814741910323 : Int64)) = bts8 (fun b => f1 b &&& 51) 8 n := by
    rw [uN_and, c2, h, bts8_and (by decide), bts8_comp (fun b hb => (f_steps b hb).2.1)]
  have e2 : uN (((Int64.toUInt64 y >>> (Int64.toUInt64 (Int32.toInt64 (nI 2)) &&& Int64.toUInt64 63)).toInt64) &&& (3689348814741910323 : Int64)) = bts8 (fun b => f1 b / 4 &&& 51) 8 n := by
    rw [uN_and, uN_ushr (by decide), c2, s2, h, bts8_comp (fun b hb => (f_steps b hb).2.1)]
  have e3 := bts8_add (f := fun b => f1 b &&& 51) (g := fun b => f1 b / 4 &&& 51) 8 n
  have e4 := bts8_top (f := f2) (c := 68) (fun b hb => (f_steps b hb).2.2.1) n
  have e5 : bts8 (fun b => (f1 b &&& 51) + (f1 b / 4 &&& 51)) 8 n = bts8 f2 8 n := rfl
  have e6 : bts8 (fun _ => 68) 8 n < 2 ^ 64 := by rw [bts8_8]; decide
  rw [uN_add (by rw [e1, e2, e3, e5]; exact Nat.lt_of_le_of_lt e4 e6), e1, e2, e3]
  rfl
theorem sw3 {y : Int64} {n : Nat} (h : uN y = bts8 f2 8 n) : uN ((y + ((Int64.toUInt64 y >>> (Int64.toUInt64 (Int32.toInt64 (nI 4)) &&& Int64.toUInt64 63)).toInt64)) &&& (1085102592571150095 : Int64)) = bts8 cb 8 n := by
  have c3 : uN (1085102592571150095 : Int64) = mk 15 8 := by decide +kernel
  have e4 := bts8_top (f := f2) (c := 68) (fun b hb => (f_steps b hb).2.2.1) n
  have e6 : bts8 (fun _ => 68) 8 n = 4919131752989213764 := by rw [bts8_8]
  have e1 : uN ((Int64.toUInt64 y >>> (Int64.toUInt64 (Int32.toInt64 (nI 4)) &&& Int64.toUInt64 63)).toInt64) = bts8 f2 8 n / 16 := by rw [uN_ushr (by decide), h]
  rw [uN_and, uN_add (by rw [e1, h]; omega), e1, h, c3, bts8_15 (fun b hb => ⟨(f_steps b hb).2.2.1, (f_steps b hb).2.2.2.1⟩), bts8_congr (fun b hb => (f_steps b hb).2.2.2.2)]
theorem sw_sum {p0 p1 p2 p3 p4 p5 p6 p7 w3 w4 w5 : Nat} (h0 : p0 ≤ 8) (h1 : p1 ≤ 8) (h2 : p2 ≤ 8) (h3 : p3 ≤ 8) (h4 : p4 ≤ 8) (h5 : p5 ≤ 8) (h6 : p6 ≤ 8) (h7 : p7 ≤ 8)
    (e3 : w3 = p0 + 256 * (p1 + 256 * (p2 + 256 * (p3 + 256 * (p4 + 256 * (p5 + 256 * (p6 + 256 * p7))))))) (e4 : w4 = w3 + w3 / 256) (e5 : w5 = w4 + w4 / 65536) :
    (w5 + w5 / 4294967296) % 128 = p0 + p1 + p2 + p3 + p4 + p5 + p6 + p7 ∧ w5 + w5 / 4294967296 < 2 ^ 64 ∧ w5 < 2 ^ 64 ∧ w4 < 2 ^ 64 := by
  have a4 : w4 = (p0 + p1) + 256 * ((p1 + p2) + 256 * ((p2 + p3) + 256 * ((p3 + p4) + 256 * ((p4 + p5) + 256 * ((p5 + p6) + 256 * ((p6 + p7) + 256 * p7)))))) := by omega
  have a5 : w5 = (p0 + p1 + p2 + p3) + 256 * ((p1 + p2 + p3 + p4) + 256 * ((p2 + p3 + p4 + p5) + 256 * ((p3 + p4 + p5 + p6) + 256 * ((p4 + p5 + p6 + p7) + 256 * ((p5 + p6 + p7) + 256 * ((p6 + p7) + 256 * p7)))))) := by
    clear e3 e4
    omega
  have b4 : w4 < 2 ^ 64 := by clear e3 e4 e5 a5; omega
  clear e3 e4 e5 a4
  have a6 : w5 / 4294967296 = (p4 + p5 + p6 + p7) + 256 * ((p5 + p6 + p7) + 256 * ((p6 + p7) + 256 * p7)) := by omega
  refine ⟨?_, ?_, ?_, b4⟩ 
  · rw [a6]
    rw [show w5 + ((p4 + p5 + p6 + p7) + 256 * ((p5 + p6 + p7) + 256 * ((p6 + p7) + 256 * p7))) = (p0 + p1 + p2 + p3 + p4 + p5 + p6 + p7) + 128 * (2 * ((p1 + p2 + p3 + p4) + 256 * ((p2 + p3 + p4 + p5) + 256 * ((p3 + p4 + p5 + p6) + 256 * ((p4 + p5 + p6 + p7) + 256 * ((p5 + p6 + p7) + 256 * ((p6 + p7) + 256 * p7))))) + ((p5 + p6 + p7) + 256 * ((p6 + p7) + 256 * p7)))) by omega, Nat.add_mul_mod_self_left, Nat.mod_eq_of_lt (by omega)]
  · rw [a6]; omega
  · omega
theorem jl_bitCount {d : Nat} (hd : 1 ≤ d) (x : Int64) (M : zM) : zV d n_JL_bitCount [.long x] M = some (some (.int (nI (cnt (zb x) 64))), M) := by
  obtain ⟨d, rfl, hd1⟩ := zdep hd
  rw [ze_JL_bitCount]
  unfold zx_JL_bitCount
  simp only [zbl_S, il]
  rw [toI32]
  have h3 := sw3 (sw2 (sw1 x))
  generalize hw3 : ((((x - (((Int64.toUInt64 x >>> (Int64.toUInt64 (Int32.toInt64 (nI 1)) &&& Int64.toUInt64 63)).toInt64) &&& (6148914691236517205 : Int64))) &&& (3689348814741910323 : Int64)) + (((Int64.toUInt64 (x - (((Int64.toUInt64 x >>> (Int64.toUInt64 (Int32.toInt64 (nI 1)) &&& Int64.toUInt64 63)).toInt64) &&& (6148914691236517205 : Int64))) >>> (Int64.toUInt64 (Int32.toInt64 (nI 2)) &&& Int64.toUInt64 63)).toInt64) &&& (3689348814741910323 : Int64))) + ((Int64.toUInt64 (((x - (((Int64.toUInt64 x >>> (Int64.toUInt64 (Int32.toInt64 (nI 1)) &&& Int64.toUInt64 63)).toInt64) &&& (6148914691236517205 : Int64))) &&& (3689348814741910323 : Int64)) + (((Int64.toUInt64 (x - (((Int64.toUInt64 x >>> (Int64.toUInt64 (Int32.toInt64 (nI 1)) &&& Int64.toUInt64 63)).toInt64) &&& (6148914691236517205 : Int64))) >>> (Int64.toUInt64 (Int32.toInt64 (nI 2)) &&& Int64.toUInt64 63)).toInt64) &&& (3689348814741910323 : Int64))) >>> (Int64.toUInt64 (Int32.toInt64 (nI 4)) &&& Int64.toUInt64 63)).toInt64)) &&& (1085102592571150095 : Int64) = w3 at *
  rw [bts8_8] at h3
  have hc : cnt (zb x) 64 = _ := cnt_bytes 8 (uN x)
  have hl : List.range 8 = [0, 1, 2, 3, 4, 5, 6, 7] := by decide
  simp only [hl, List.foldr_cons, List.foldr_nil, Nat.reducePow, Nat.div_one, Nat.add_zero] at hc
  obtain ⟨s1, s2, s3, s4⟩ := sw_sum (cb_le _) (cb_le _) (cb_le _) (cb_le _) (cb_le _) (cb_le _) (cb_le _) (cb_le _) h3 rfl rfl
  have u4 : uN (w3 + ((Int64.toUInt64 w3 >>> (Int64.toUInt64 (Int32.toInt64 (nI 8)) &&& Int64.toUInt64 63)).toInt64)) = uN w3 + uN w3 / 256 := by
    rw [uN_add (by rw [uN_ushr (by decide)]; exact s4), uN_ushr (by decide)]
  generalize w3 + ((Int64.toUInt64 w3 >>> (Int64.toUInt64 (Int32.toInt64 (nI 8)) &&& Int64.toUInt64 63)).toInt64) = w4 at *
  rw [← u4] at s1 s2 s3 s4
  have u5 : uN (w4 + ((Int64.toUInt64 w4 >>> (Int64.toUInt64 (Int32.toInt64 (nI 16)) &&& Int64.toUInt64 63)).toInt64)) = uN w4 + uN w4 / 65536 := by
    rw [uN_add (by rw [uN_ushr (by decide)]; exact s3), uN_ushr (by decide)]
  generalize w4 + ((Int64.toUInt64 w4 >>> (Int64.toUInt64 (Int32.toInt64 (nI 16)) &&& Int64.toUInt64 63)).toInt64) = w5 at *
  rw [← u5] at s1 s2 s3
  have u6 : uN (w5 + ((Int64.toUInt64 w5 >>> (Int64.toUInt64 (Int32.toInt64 (nI 32)) &&& Int64.toUInt64 63)).toInt64)) = uN w5 + uN w5 / 4294967296 := by
    rw [uN_add (by rw [uN_ushr (by decide)]; exact s2), uN_ushr (by decide)]
  rw [u6, s1, hc]
  simp only [Nat.add_assoc]
