/-! ===== sets of persons as numbers ===== -/
theorem nI_or (a b : Nat) : nI a ||| nI b = nI (a ||| b) := by
  apply Int32.toBitVec_inj.mp
  show BitVec.ofNat 32 a ||| BitVec.ofNat 32 b = BitVec.ofNat 32 (a ||| b)
  rw [BitVec.ofNat_or]
theorem nI_and (a b : Nat) : nI a &&& nI b = nI (a &&& b) := by
  apply Int32.toBitVec_inj.mp
  show BitVec.ofNat 32 a &&& BitVec.ofNat 32 b = BitVec.ofNat 32 (a &&& b)
  rw [BitVec.ofNat_and]
theorem nI_xor (a b : Nat) : nI a ^^^ nI b = nI (a ^^^ b) := by
  apply Int32.toBitVec_inj.mp
  show BitVec.ofNat 32 a ^^^ BitVec.ofNat 32 b = BitVec.ofNat 32 (a ^^^ b)
  rw [BitVec.ofNat_xor]
theorem nI_inj {a b : Nat} (ha : a < 2 ^ 32) (hb : b < 2 ^ 32) : nI a = nI b ↔ a = b := by
  constructor
  · intro h
    have h2 : (nI a).toBitVec.toNat = (nI b).toBitVec.toNat := by rw [h]
    rw [pk_tn ha, pk_tn hb] at h2
    exact h2
  · intro h; rw [h]
theorem nI_all (x : Int32) : ∃ n, n < 2 ^ 32 ∧ x = nI n := ⟨x.toBitVec.toNat, x.toBitVec.isLt, Int32.toBitVec_inj.mp (by show _ = BitVec.ofNat 32 _; rw [BitVec.ofNat_toNat, BitVec.setWidth_eq])⟩
theorem sm_l : ∀ n, n < 32 → ((nI n &&& 31).toBitVec.smod 32).toNat = n := by decide
theorem sm_u : ∀ n, n < 32 → (((nI n).toUInt32 &&& Int32.toUInt32 31).toBitVec % 32).toNat = n := by decide
theorem shl1 {k : Nat} (h : k < 32) : gshl 1 (nI k) = nI (2 ^ k) := by
  unfold gshl
  have hp : 2 ^ k < 2 ^ 32 := Nat.pow_lt_pow_right (by omega) h
  have e := pk_shlN (n := 1) (nI k &&& 31) k (sm_l k h) (by rw [Nat.one_mul]; exact hp)
  rw [Nat.one_mul] at e
  exact e
theorem tb_dm (n k : Nat) : n / 2 ^ k % 2 = if n.testBit k then 1 else 0 := by
  rw [Nat.testBit_eq_decide_div_mod_eq]
  by_cases h : n / 2 ^ k % 2 = 1
  · simp [h]
  · have : n / 2 ^ k % 2 = 0 := by omega
    simp [this]
theorem and1 {n : Nat} (h : n < 2 ^ 32) : nI n &&& 1 = nI (n % 2) := pk_andN h 1 (by decide)
theorem ush1 {n k : Nat} (hn : n < 2 ^ 32) (hk : k < 32) : gushr (nI n) (nI k) &&& 1 = if n.testBit k then 1 else 0 := by
  unfold gushr
  rw [pk_ushrN hn _ k (sm_u k hk), and1 (Nat.lt_of_le_of_lt (Nat.div_le_self _ _) hn), tb_dm]
  by_cases h : n.testBit k <;> simp [h] <;> rfl
theorem shr1 {n k : Nat} (hn : n < 2 ^ 31) (hk : k < 32) : gshr (nI n) (nI k) &&& 1 = if n.testBit k then 1 else 0 := by
  unfold gshr
  rw [pk_shrN hn _ k (sm_l k hk), and1 (Nat.lt_of_le_of_lt (Nat.div_le_self _ _) (by omega)), tb_dm]
  by_cases h : n.testBit k <;> simp [h] <;> rfl
theorem b2i_1 {b : Bool} : ((if b then 1 else 0 : Int32) = 1) ↔ b = true := by cases b <;> decide
theorem b2i_0 {b : Bool} : ((if b then 1 else 0 : Int32) = 0) ↔ b = false := by cases b <;> decide
theorem ush1_1 {n k : Nat} (hn : n < 2 ^ 32) (hk : k < 32) : (gushr (nI n) (nI k) &&& 1 = 1) ↔ n.testBit k = true := by rw [ush1 hn hk, b2i_1]
theorem ush1_0 {n k : Nat} (hn : n < 2 ^ 32) (hk : k < 32) : (gushr (nI n) (nI k) &&& 1 = 0) ↔ n.testBit k = false := by rw [ush1 hn hk, b2i_0]
theorem x12_has {n k : Nat} (hn : n < 2 ^ 31) (hk : k < 32) : p_X12_has (nI n) (nI k) = some (if n.testBit k then 1 else 0) := by
  unfold p_X12_has
  rw [shr1 hn hk]
  cases n.testBit k <;> rfl
theorem nI_not (a t : Nat) (ht : t < 32) : nI a &&& (nI (2 ^ t) ^^^ (-1)) = nI (a &&& (2 ^ t ^^^ (2 ^ 32 - 1))) := by
  have : (-1 : Int32) = nI (2 ^ 32 - 1) := by decide
  rw [this, nI_xor, nI_and]
theorem tb_not (a t k : Nat) (hk : k < 32) : (a &&& (2 ^ t ^^^ (2 ^ 32 - 1))).testBit k = (a.testBit k && !decide (k = t)) := by
  rw [Nat.testBit_and, Nat.testBit_xor, Nat.testBit_two_pow_sub_one, Nat.testBit_two_pow]
  have e : decide (t = k) = decide (k = t) := by by_cases h : t = k <;> simp [h, eq_comm]
  rw [e]
  simp [hk]
theorem lt_and {a b N : Nat} (h : a < N) : a &&& b < N := Nat.lt_of_le_of_lt Nat.and_le_left h
theorem tb_ext {a b n : Nat} (ha : a < 2 ^ n) (hb : b < 2 ^ n) (h : ∀ k, k < n → a.testBit k = b.testBit k) : a = b := by
  apply Nat.eq_of_testBit_eq
  intro k
  by_cases hk : k < n
  · exact h k hk
  · rw [Nat.testBit_lt_two_pow (Nat.lt_of_lt_of_le ha (Nat.pow_le_pow_right (by omega) (by omega))), Nat.testBit_lt_two_pow (Nat.lt_of_lt_of_le hb (Nat.pow_le_pow_right (by omega) (by omega)))]
/-- the set of those below n for whom p -/
def gM (p : Nat → Bool) : Nat → Nat
  | 0 => 0
  | n + 1 => gM p n ||| if p n then 2 ^ n else 0
theorem gM_tb (p : Nat → Bool) (n k : Nat) : (gM p n).testBit k = (decide (k < n) && p k) := by
  induction n with
  | zero => simp [gM]
  | succ n ih =>
    unfold gM
    rw [Nat.testBit_or, ih]
    by_cases h : p n = true
    · rw [if_pos h, Nat.testBit_two_pow]
      by_cases hk : k = n
      · subst hk; simp [h]
      · have : ¬ n = k := fun q => hk q.symm
        have e : decide (k < n + 1) = decide (k < n) := by
          by_cases h2 : k < n
          · simp [h2]; omega
          · simp [h2]; omega
        simp [this, e]
    · rw [if_neg h, Nat.zero_testBit]
      by_cases hk : k = n
      · subst hk; simp [h]
      · have e : decide (k < n + 1) = decide (k < n) := by
          by_cases h2 : k < n
          · simp [h2]; omega
          · simp [h2]; omega
        simp [e]
theorem gM_lt (p : Nat → Bool) (n : Nat) : gM p n < 2 ^ n := by
  apply Nat.lt_pow_two_of_testBit
  intro i hi
  rw [gM_tb]
  simp; omega
theorem gM_cg {p q : Nat → Bool} {n : Nat} (h : ∀ k, k < n → p k = q k) : gM p n = gM q n := by
  induction n with
  | zero => rfl
  | succ n ih =>
    unfold gM
    rw [ih (fun k hk => h k (by omega)), h n (by omega)]
theorem gM_of {m n : Nat} (h : m < 2 ^ n) : gM (fun k => m.testBit k) n = m := by
  apply tb_ext (gM_lt _ _) h
  intro k hk
  rw [gM_tb]
  simp [hk]
/-- how many -/
def gCt (p : Nat → Bool) : Nat → Nat
  | 0 => 0
  | n + 1 => gCt p n + if p n then 1 else 0
theorem gCt_le (p : Nat → Bool) (n : Nat) : gCt p n ≤ n := by
  induction n with
  | zero => exact Nat.le_refl _
  | succ n ih =>
    unfold gCt
    by_cases h : p n = true
    · rw [if_pos h]; omega
    · rw [if_neg h]; omega
theorem gCt_cg {p q : Nat → Bool} {n : Nat} (h : ∀ k, k < n → p k = q k) : gCt p n = gCt q n := by
  induction n with
  | zero => rfl
  | succ n ih =>
    unfold gCt
    rw [ih (fun k hk => h k (by omega)), h n (by omega)]
/-- how many bits below k are set -/
def gpc : Nat → Nat → Nat
  | 0, _ => 0
  | k + 1, n => n % 2 + gpc k (n / 2)
theorem gpc_le (k : Nat) : ∀ n, gpc k n ≤ k := by
  induction k with
  | zero => intro n; exact Nat.le_refl _
  | succ k ih =>
    intro n
    unfold gpc
    have := ih (n / 2)
    omega
theorem and_split (a c : Nat) {b d : Nat} (hb : b < 256) (hd : d < 256) : (256 * a + b) &&& (256 * c + d) = 256 * (a &&& c) + (b &&& d) := by
  apply Nat.eq_of_testBit_eq
  intro i
  have h1 : b < 2 ^ 8 := hb
  have h2 : d < 2 ^ 8 := hd
  have h3 : b &&& d < 2 ^ 8 := lt_and h1
  rw [Nat.testBit_and, show 256 * a + b = 2 ^ 8 * a + b from rfl, show 256 * c + d = 2 ^ 8 * c + d from rfl, show 256 * (a &&& c) + (b &&& d) = 2 ^ 8 * (a &&& c) + (b &&& d) from rfl, Nat.testBit_two_pow_mul_add _ h1, Nat.testBit_two_pow_mul_add _ h2, Nat.testBit_two_pow_mul_add _ h3]
  by_cases h : i < 8
  · rw [if_pos h, if_pos h, if_pos h, Nat.testBit_and]
  · rw [if_neg h, if_neg h, if_neg h, Nat.testBit_and]
def bc1 (x : Nat) : Nat := x - (x / 2 &&& 85)
def bc2 (x : Nat) : Nat := (bc1 x &&& 51) + (bc1 x / 4 &&& 51)
theorem bc_byte : ∀ x, x < 256 → (x / 2 &&& 85) ≤ x ∧ bc1 x < 256 ∧ bc2 x ≤ 68 ∧ bc2 x % 16 ≤ 4 ∧ (bc2 x + bc2 x / 16 &&& 15) = gpc 8 x := by decide +kernel
theorem bc_c1 : ∀ e, e < 2 → ∀ b, b < 256 → (b / 2 + 128 * e &&& 85) = (b / 2 &&& 85) := by decide +kernel
theorem bc_c2 : ∀ e, e < 4 → ∀ b, b < 256 → (b / 4 + 64 * e &&& 51) = (b / 4 &&& 51) := by decide +kernel
theorem bc_c3 : ∀ e, e < 5 → ∀ b, b < 69 → (b + b / 16 + 16 * e &&& 15) = (b + b / 16 &&& 15) := by decide +kernel
theorem gpc_split (a : Nat) {b : Nat} : ∀ (k : Nat) (b : Nat), b < 2 ^ k → ∀ j, gpc (k + j) (2 ^ k * a + b) = gpc k b + gpc j a := by
  intro k
  induction k with
  | zero =>
    intro b hb j
    have : b = 0 := by omega
    subst this
    rw [Nat.zero_add, Nat.pow_zero, Nat.one_mul, Nat.add_zero]
    show _ = 0 + _
    omega
  | succ k ih =>
    intro b hb j
    have e0 : k + 1 + j = (k + j) + 1 := by omega
    rw [e0]
    show (2 ^ (k + 1) * a + b) % 2 + gpc (k + j) ((2 ^ (k + 1) * a + b) / 2) = (b % 2 + gpc k (b / 2)) + gpc j a
    have e1 : 2 ^ (k + 1) * a = 2 * (2 ^ k * a) := by rw [Nat.pow_succ, Nat.mul_comm (2 ^ k) 2, Nat.mul_assoc]
    have hb' : b < 2 ^ k * 2 := by rw [← Nat.pow_succ]; exact hb
    have e2 : (2 ^ (k + 1) * a + b) / 2 = 2 ^ k * a + b / 2 := by rw [e1]; omega
    have e3 : (2 ^ (k + 1) * a + b) % 2 = b % 2 := by rw [e1]; omega
    rw [e2, e3, ih (b / 2) (by omega) j]
    omega
theorem bitCount {n : Nat} (hn : n < 65536) : p_J6_bitCount_0f7a4 (nI n) = some (nI (gpc 16 n)) := by
  obtain ⟨a, b, ha, hb, rfl⟩ : ∃ a b, a < 256 ∧ b < 256 ∧ n = 256 * a + b := ⟨n / 256, n % 256, by omega, by omega, by omega⟩
  obtain ⟨a1, a2, a3, a4, a5⟩ := bc_byte a ha
  obtain ⟨b1, b2, b3, b4, b5⟩ := bc_byte b hb
  have u85 : ∀ x, x < 128 → (x &&& 5592405) = (x &&& 85) := by decide +kernel
  have u51 : ∀ x, x < 256 → (x &&& 3355443) = (x &&& 51) := by decide +kernel
  have u15 : ∀ x, x < 256 → (x &&& 986895) = (x &&& 15) := by decide +kernel
  have s1 : (256 * a + b) / 2 &&& 1431655765 = 256 * (a / 2 &&& 85) + (b / 2 &&& 85) := by
    rw [show (256 * a + b) / 2 = 256 * (a / 2) + (b / 2 + 128 * (a % 2)) by omega, show 1431655765 = 256 * 5592405 + 85 from rfl, and_split _ _ (by omega) (by omega), bc_c1 _ (by omega) _ hb, u85 _ (by omega)]
  have s2 : (256 * a + b) - (256 * (a / 2 &&& 85) + (b / 2 &&& 85)) = 256 * bc1 a + bc1 b := by unfold bc1; omega
  have s3 : (256 * bc1 a + bc1 b) &&& 858993459 = 256 * (bc1 a &&& 51) + (bc1 b &&& 51) := by
    rw [show 858993459 = 256 * 3355443 + 51 from rfl, and_split _ _ b2 (by omega), u51 _ a2]
  have s4 : (256 * bc1 a + bc1 b) / 4 &&& 858993459 = 256 * (bc1 a / 4 &&& 51) + (bc1 b / 4 &&& 51) := by
    rw [show (256 * bc1 a + bc1 b) / 4 = 256 * (bc1 a / 4) + (bc1 b / 4 + 64 * (bc1 a % 4)) by omega, show 858993459 = 256 * 3355443 + 51 from rfl, and_split _ _ (by omega) (by omega), bc_c2 _ (by omega) _ b2, u51 _ (by omega)]
  have s5 : (256 * (bc1 a &&& 51) + (bc1 b &&& 51)) + (256 * (bc1 a / 4 &&& 51) + (bc1 b / 4 &&& 51)) = 256 * bc2 a + bc2 b := by unfold bc2; omega
  have s6 : (256 * bc2 a + bc2 b) + (256 * bc2 a + bc2 b) / 16 &&& 252645135 = 256 * gpc 8 a + gpc 8 b := by
    rw [show (256 * bc2 a + bc2 b) + (256 * bc2 a + bc2 b) / 16 = 256 * (bc2 a + bc2 a / 16) + (bc2 b + bc2 b / 16 + 16 * (bc2 a % 16)) by omega, show 252645135 = 256 * 986895 + 15 from rfl, and_split _ _ (by omega) (by omega), bc_c3 _ (by omega) _ (by omega), u15 _ (by omega), a5, b5]
  have g8a := gpc_le 8 a
  have g8b := gpc_le 8 b
  have e16 : gpc 16 (256 * a + b) = gpc 8 b + gpc 8 a := gpc_split a (b := b) 8 b hb 8
  have t : ∀ (m k : Nat) (hm : m < 65536) (hk : k < 32), gushr (nI m) (nI k) = nI (m / 2 ^ k) := fun m k hm hk => by
    unfold gushr
    exact pk_ushrN (by omega) _ k (sm_u k hk)
  unfold p_J6_bitCount_0f7a4 gL
  have h1 : nI (256 * a + b) - ((gushr (nI (256 * a + b)) (1 : Int32)) &&& (1431655765 : Int32)) = nI (256 * bc1 a + bc1 b) := by
    rw [show gushr (nI (256 * a + b)) (1 : Int32) = nI ((256 * a + b) / 2) from t _ 1 hn (by omega), show (1431655765 : Int32) = nI 1431655765 from rfl, nI_and, s1, pk_sub (by omega), s2]
  rw [h1]
  dsimp only
  have h2 : (nI (256 * bc1 a + bc1 b) &&& (858993459 : Int32)) + ((gushr (nI (256 * bc1 a + bc1 b)) (2 : Int32)) &&& (858993459 : Int32)) = nI (256 * bc2 a + bc2 b) := by
    rw [show gushr (nI (256 * bc1 a + bc1 b)) (2 : Int32) = nI ((256 * bc1 a + bc1 b) / 4) from t _ 2 (by omega) (by omega), show (858993459 : Int32) = nI 858993459 from rfl, nI_and, nI_and, s3, s4, nI_add, s5]
  rw [h2]
  have h3 : (nI (256 * bc2 a + bc2 b) + gushr (nI (256 * bc2 a + bc2 b)) (4 : Int32)) &&& (252645135 : Int32) = nI (256 * gpc 8 a + gpc 8 b) := by
    rw [show gushr (nI (256 * bc2 a + bc2 b)) (4 : Int32) = nI ((256 * bc2 a + bc2 b) / 16) from t _ 4 (by omega) (by omega), show (252645135 : Int32) = nI 252645135 from rfl, nI_add, nI_and, s6]
  rw [h3]
  have h4 : nI (256 * gpc 8 a + gpc 8 b) + gushr (nI (256 * gpc 8 a + gpc 8 b)) (8 : Int32) = nI (256 * gpc 8 a + (gpc 8 b + gpc 8 a)) := by
    rw [show gushr (nI (256 * gpc 8 a + gpc 8 b)) (8 : Int32) = nI ((256 * gpc 8 a + gpc 8 b) / 256) from t _ 8 (by omega) (by omega), nI_add]
    congr 1
    omega
  rw [h4]
  have h5 : nI (256 * gpc 8 a + (gpc 8 b + gpc 8 a)) + gushr (nI (256 * gpc 8 a + (gpc 8 b + gpc 8 a))) (16 : Int32) = nI (256 * gpc 8 a + (gpc 8 b + gpc 8 a)) := by
    rw [show gushr (nI (256 * gpc 8 a + (gpc 8 b + gpc 8 a))) (16 : Int32) = nI ((256 * gpc 8 a + (gpc 8 b + gpc 8 a)) / 65536) from t _ 16 (by omega) (by omega), nI_add]
    congr 1
    omega
  rw [h5]
  have h6 : nI (256 * gpc 8 a + (gpc 8 b + gpc 8 a)) &&& (63 : Int32) = nI (gpc 8 b + gpc 8 a) := by
    rw [show nI (256 * gpc 8 a + (gpc 8 b + gpc 8 a)) &&& (63 : Int32) = _ from pk_andN (by omega) 6 (by decide)]
    congr 1
    omega
  rw [h6, e16]
theorem gpc_low (k : Nat) : ∀ n, n < 2 ^ k → 0 < n → gpc k (n &&& (n - 1)) + 1 = gpc k n := by
  induction k with
  | zero => intro n h h0; omega
  | succ k ih =>
    intro n h h0
    unfold gpc
    rw [Nat.and_div_two]
    have m : (n &&& (n - 1)) % 2 = 0 := by
      have e := @Nat.and_mod_two_eq_one n (n - 1)
      by_cases q : (n &&& (n - 1)) % 2 = 1
      · have := e.mp q
        omega
      · omega
    rw [m]
    by_cases h1 : n % 2 = 1
    · rw [show (n - 1) / 2 = n / 2 by omega, Nat.and_self]
      omega
    · have := ih (n / 2) (by omega) (by omega)
      rw [show (n - 1) / 2 = n / 2 - 1 by omega]
      omega
theorem x12_size_loop (x0 : Int32) : ∀ (f c m : Nat), m < 65536 → gpc 16 m < f → p_X12_sizeOf_4 x0 f (nI c) (nI m) = some (nI (c + gpc 16 m)) := by
  intro f
  induction f with
  | zero => intro c m hm h; omega
  | succ f ih =>
    intro c m hm h
    unfold p_X12_sizeOf_4 gL
    by_cases h0 : m = 0
    · subst h0
      rw [if_pos (show nI 0 = 0 from rfl)]
      rfl
    · rw [if_neg (show ¬ nI m = 0 from fun q => h0 ((nI_inj (by omega) (by omega)).mp (show nI m = nI 0 from q)))]
      have e : nI m &&& (nI m - 1) = nI (m &&& (m - 1)) := by
        rw [show nI m - 1 = nI (m - 1) from pk_sub (b := 1) (by omega), nI_and]
      have l := gpc_low 16 m hm (by omega)
      rw [e, nI_1]
      show p_X12_sizeOf_4 x0 f (nI (c + 1)) (nI (m &&& (m - 1))) = _
      rw [ih (c + 1) (m &&& (m - 1)) (lt_and hm) (by omega)]
      congr 2
      omega
theorem x12_sizeOf {n : Nat} (hn : n < 65536) : p_X12_sizeOf (nI n) = some (nI (gpc 16 n)) := by
  unfold p_X12_sizeOf
  have := gpc_le 16 n
  rw [show p_X12_sizeOf_4 (nI n) gFu 0 (nI n) = _ from x12_size_loop (nI n) gFu 0 n hn (by unfold gFu; omega), Nat.zero_add]
theorem gpc_0 (k : Nat) : gpc k 0 = 0 := by
  induction k with
  | zero => rfl
  | succ k ih => unfold gpc; rw [ih]
theorem gpc_eq0 {k : Nat} : ∀ {n : Nat}, n < 2 ^ k → gpc k n = 0 → n = 0 := by
  induction k with
  | zero => intro n h _; omega
  | succ k ih =>
    intro n h e
    unfold gpc at e
    have := ih (n := n / 2) (by omega) (by omega)
    omega
