/-! ===== packing: words as numbers, lists of bytes ===== -/
def uN (v : Int64) : Nat := v.toBitVec.toNat
theorem uN_lt (v : Int64) : uN v < 2 ^ 64 := v.toBitVec.isLt
theorem uN_inj {a b : Int64} (h : uN a = uN b) : a = b := Int64.toBitVec_inj.mp (BitVec.eq_of_toNat_eq h)
theorem uN_and (a b : Int64) : uN (a &&& b) = uN a &&& uN b := by
  unfold uN
  rw [Int64.toBitVec_and, BitVec.toNat_and]
theorem uN_or (a b : Int64) : uN (a ||| b) = uN a ||| uN b := by
  unfold uN
  rw [Int64.toBitVec_or, BitVec.toNat_or]
theorem uN_127 (v : Int64) : uN (v &&& 127) = uN v % 128 := by
  rw [uN_and]
  exact Nat.and_two_pow_sub_one_eq_mod (uN v) 7
theorem or128 {n : Nat} (h : n < 128) : n ||| 128 = n + 128 := by
  have e : 128 + n = 128 ||| n := Nat.two_pow_add_eq_or_of_lt (i := 7) h 1
  rw [Nat.or_comm]
  omega
theorem uN_or128 (v : Int64) : uN ((v &&& 127) ||| 128) = uN v % 128 + 128 := by
  rw [uN_or, uN_127]
  exact or128 (Nat.mod_lt _ (by omega))
noncomputable def lsr7 (v : Int64) : Int64 := UInt64.toInt64 (Int64.toUInt64 v >>> (Int64.toUInt64 (Int32.toInt64 7) &&& Int64.toUInt64 63))
theorem uN_lsr7 (v : Int64) : uN (lsr7 v) = uN v / 128 := by
  unfold uN lsr7
  have e : (UInt64.toInt64 (Int64.toUInt64 v >>> (Int64.toUInt64 (Int32.toInt64 7) &&& Int64.toUInt64 63))).toBitVec = v.toBitVec >>> 7 := rfl
  rw [e, BitVec.toNat_ushiftRight, Nat.shiftRight_eq_div_pow]
theorem lsr7_0 (v : Int64) : lsr7 v = 0 ↔ uN v < 128 := by
  have h := uN_lsr7 v
  constructor
  · intro e
    rw [e] at h
    have : uN 0 = 0 := rfl
    omega
  · intro e
    apply uN_inj
    rw [h]
    have : uN 0 = 0 := rfl
    omega
theorem toI32_nat (v : Int64) : (Int64.toInt32 v).toBitVec.toNat = uN v % 2 ^ 32 := by
  rw [Int64.toBitVec_toInt32, BitVec.signExtend_eq_setWidth_of_le _ (by omega), BitVec.toNat_setWidth]
  rfl
theorem toI32_nI {v : Int64} (h : uN v < 2 ^ 32) : Int64.toInt32 v = nI (uN v) := by
  apply Int32.toBitVec_inj.mp
  apply BitVec.eq_of_toNat_eq
  rw [toI32_nat, pk_tn h, Nat.mod_eq_of_lt h]
def sb (b : Nat) : Int32 := (nI b).toInt8.toInt32
theorem by8_sb (v : Int64) : Int8.toInt32 (Int32.toInt8 (Int8.toInt32 (Int32.toInt8 (Int64.toInt32 v)))) = sb (uN v % 256) := by
  have e : Int64.toInt32 v &&& 255 = nI (uN v % 256) := by
    rw [pk_and (Int64.toInt32 v) (m := 255) 8 rfl, toI32_nat]
    congr 1
    omega
  unfold sb
  rw [← e, byte_low, Int8.toInt8_toInt32]
theorem and128 (v : Int64) : v &&& (-128) = 0 ↔ uN v < 128 := by
  have e1 : uN (-128) = 2 ^ 64 - 128 := rfl
  have e3 : uN (v &&& (-128)) + uN v % 128 = uN v := by
    rw [← uN_127]
    have h1 : uN (v &&& (-128)) &&& uN (v &&& 127) = 0 := by
      rw [← uN_and]
      have : v &&& (-128) &&& (v &&& 127) = 0 := by
        apply Int64.toBitVec_inj.mp
        apply BitVec.eq_of_getLsbD_eq
        intro i hi
        have e : (-128 : Int64).toBitVec = ~~~ (127 : Int64).toBitVec := by decide
        simp only [Int64.toBitVec_and, BitVec.getLsbD_and, e, BitVec.getLsbD_not, hi, decide_true, Bool.true_and]
        cases v.toBitVec.getLsbD i <;> cases (127 : Int64).toBitVec.getLsbD i <;> simp
      rw [this]; rfl
    have h2 : uN (v &&& (-128)) ||| uN (v &&& 127) = uN v := by
      rw [← uN_or]
      congr 1
      apply Int64.toBitVec_inj.mp
      apply BitVec.eq_of_getLsbD_eq
      intro i hi
      have e : (-128 : Int64).toBitVec = ~~~ (127 : Int64).toBitVec := by decide
      simp only [Int64.toBitVec_and, Int64.toBitVec_or, BitVec.getLsbD_and, BitVec.getLsbD_or, e, BitVec.getLsbD_not, hi, decide_true, Bool.true_and]
      cases v.toBitVec.getLsbD i <;> cases (127 : Int64).toBitVec.getLsbD i <;> simp
    have h3 : uN (v &&& (-128)) + uN (v &&& 127) = uN (v &&& (-128)) ||| uN (v &&& 127) := by
      have q : uN (v &&& (-128)) % 128 = 0 := by
        have q1 : uN ((v &&& (-128)) &&& 127) = uN (v &&& (-128)) % 128 := uN_127 _
        have q2 : (v &&& (-128)) &&& 127 = 0 := by
          apply Int64.toBitVec_inj.mp
          apply BitVec.eq_of_getLsbD_eq
          intro i hi
          have e : (-128 : Int64).toBitVec = ~~~ (127 : Int64).toBitVec := by decide
          simp only [Int64.toBitVec_and, BitVec.getLsbD_and, e, BitVec.getLsbD_not, hi, decide_true, Bool.true_and]
          cases v.toBitVec.getLsbD i <;> cases (127 : Int64).toBitVec.getLsbD i <;> simp
        rw [q2] at q1
        exact q1.symm
      have e := Nat.two_pow_add_eq_or_of_lt (i := 7) (b := uN (v &&& 127)) (by rw [uN_127]; omega) (uN (v &&& (-128)) / 128)
      have q3 : 2 ^ 7 * (uN (v &&& (-128)) / 128) = uN (v &&& (-128)) := by omega
      rw [q3] at e
      exact e
    omega
  constructor
  · intro h
    rw [h] at e3
    have : uN 0 = 0 := rfl
    omega
  · intro h
    apply uN_inj
    have : uN 0 = 0 := rfl
    omega
/-- a row of numbers with one place changed -/
def up {α : Type} (f : Nat → α) (j : Nat) (v : α) : Nat → α := fun y => if y = j then v else f y
theorem up_same {α : Type} (f : Nat → α) (j : Nat) (v : α) : up f j v j = v := if_pos rfl
theorem up_ne {α : Type} (f : Nat → α) {j x : Nat} (v : α) (h : x ≠ j) : up f j v x = f x := if_neg h
def wrL (e : Nat → Int32) : (Nat → Int32) → Nat → List Nat → (Nat → Int32)
  | M, _, [] => M
  | M, z, b :: B => wrL e (up M z (e b)) (z + 1) B
theorem wrL_app (e : Nat → Int32) : ∀ (A B : List Nat) (M : Nat → Int32) (z : Nat), wrL e M z (A ++ B) = wrL e (wrL e M z A) (z + A.length) B
  | [], B, M, z => rfl
  | a :: A, B, M, z => by
    have ih := wrL_app e A B (up M z (e a)) (z + 1)
    show wrL e (up M z (e a)) (z + 1) (A ++ B) = wrL e (wrL e (up M z (e a)) (z + 1) A) (z + (A.length + 1)) B
    rw [ih]
    congr 1
    omega
theorem wrL_snoc (e : Nat → Int32) (M : Nat → Int32) (B : List Nat) (b : Nat) : up (wrL e M 0 B) B.length (e b) = wrL e M 0 (B ++ [b]) := by
  rw [wrL_app, Nat.zero_add]
  rfl
theorem wrL_lt (e : Nat → Int32) : ∀ (B : List Nat) (M : Nat → Int32) (z x : Nat), x < z → wrL e M z B x = M x
  | [], _, _, _, _ => rfl
  | b :: B, M, z, x, h => by
    show wrL e (up M z (e b)) (z + 1) B x = M x
    rw [wrL_lt e B _ (z + 1) x (by omega), up_ne _ _ (by omega)]
theorem wrL_at (e : Nat → Int32) : ∀ (B : List Nat) (M : Nat → Int32) (z i : Nat) (h : i < B.length), wrL e M z B (z + i) = e B[i]
  | [], _, _, _, h => absurd h (Nat.not_lt_zero _)
  | b :: B, M, z, 0, h => by
    show wrL e (up M z (e b)) (z + 1) B (z + 0) = e b
    rw [wrL_lt e B _ (z + 1) (z + 0) (by omega)]
    exact up_same _ _ _
  | b :: B, M, z, i + 1, h => by
    have ih := wrL_at e B (up M z (e b)) (z + 1) i (by simpa using h)
    have e2 : z + (i + 1) = z + 1 + i := by omega
    rw [e2]
    exact ih
/-- the class's packer, the reference's own -/
noncomputable def mkC (σ : rS) (W : Nat → Int64) (M : Nat → Int32) (z : Int32) : rS := sI (sIr (sLr σ 11 0 W) 9 0 M) 8 0 1 z
noncomputable def mkR (τ : rS) (V : Nat → Int64) (M : Nat → Int32) (c z : Int32) : rS := sI (sI (sIr (sLr τ 39 0 V) 41 0 M) 29 0 10 c) 29 0 12 z
theorem ext5 {a b : rS} (h1 : a.1 = b.1) (h2 : a.2 = b.2) : a = b := Prod.ext h1 h2
theorem mkC_M (σ : rS) (W : Nat → Int64) (M : Nat → Int32) (z : Int32) (j : Nat) (v : Int32) : sI (mkC σ W M z) 9 0 j v = mkC σ W (up M j v) z := by
  refine ext5 ?_ rfl
  funext k i x
  simp only [mkC, sI, sIr, sLr, up]
  grind
theorem mkC_W (σ : rS) (W : Nat → Int64) (M : Nat → Int32) (z : Int32) (j : Nat) (v : Int64) : sL (mkC σ W M z) 11 0 j v = mkC σ (up W j v) M z := by
  refine ext5 rfl (Prod.ext ?_ rfl)
  funext k i x
  simp only [mkC, sI, sIr, sLr, sL, up]
  grind
theorem mkC_z (σ : rS) (W : Nat → Int64) (M : Nat → Int32) (z v : Int32) : sI (mkC σ W M z) 8 0 1 v = mkC σ W M v := by
  refine ext5 ?_ rfl
  funext k i x
  simp only [mkC, sI, sIr, sLr]
  grind
theorem mkC_mkC (σ : rS) (W W' : Nat → Int64) (M M' : Nat → Int32) (z z' : Int32) : mkC (mkC σ W M z) W' M' z' = mkC σ W' M' z' := by
  refine ext5 ?_ (Prod.ext ?_ rfl)
  · funext k i x
    simp only [mkC, sI, sIr, sLr]
    grind
  · funext k i x
    simp only [mkC, sI, sIr, sLr]
    grind
theorem mkR_M (τ : rS) (V : Nat → Int64) (M : Nat → Int32) (c z : Int32) (j : Nat) (v : Int32) : sI (mkR τ V M c z) 41 0 j v = mkR τ V (up M j v) c z := by
  refine ext5 ?_ rfl
  funext k i x
  simp only [mkR, sI, sIr, sLr, up]
  grind
theorem mkR_V (τ : rS) (V : Nat → Int64) (M : Nat → Int32) (c z : Int32) (j : Nat) (v : Int64) : sL (mkR τ V M c z) 39 0 j v = mkR τ (up V j v) M c z := by
  refine ext5 rfl (Prod.ext ?_ rfl)
  funext k i x
  simp only [mkR, sI, sIr, sLr, sL, up]
  grind
theorem mkR_z (τ : rS) (V : Nat → Int64) (M : Nat → Int32) (c z v : Int32) : sI (mkR τ V M c z) 29 0 12 v = mkR τ V M c v := by
  refine ext5 ?_ rfl
  funext k i x
  simp only [mkR, sI, sIr, sLr]
  grind
theorem mkR_c (τ : rS) (V : Nat → Int64) (M : Nat → Int32) (c z v : Int32) : sI (mkR τ V M c z) 29 0 10 v = mkR τ V M v z := by
  refine ext5 ?_ rfl
  funext k i x
  simp only [mkR, sI, sIr, sLr]
  grind
theorem mkR_mkR (τ : rS) (V V' : Nat → Int64) (M M' : Nat → Int32) (c c' z z' : Int32) : mkR (mkR τ V M c z) V' M' c' z' = mkR τ V' M' c' z' := by
  refine ext5 ?_ (Prod.ext ?_ rfl)
  · funext k i x
    simp only [mkR, sI, sIr, sLr]
    grind
  · funext k i x
    simp only [mkR, sI, sIr, sLr]
    grind
/-- with a list of bytes laid -/
noncomputable def pC (σ : rS) (W : Nat → Int64) (M : Nat → Int32) (B : List Nat) : rS := mkC σ W (wrL sb M 0 B) (nI B.length)
noncomputable def pR (τ : rS) (V : Nat → Int64) (M : Nat → Int32) (c : Int32) (B : List Nat) : rS := mkR τ V (wrL nI M 0 B) c (nI B.length)
theorem packByte_eq {σ : rS} {W : Nat → Int64} {M : Nat → Int32} {B : List Nat} (v : Int64) (h9 : gN σ 9 0 = 264) (hB : B.length < 264) : f5_packByte 0 v (pC σ W M B) = some ((), pC σ W M (B ++ [uN v % 256])) := by
  unfold f5_packByte
  have e1 : gI (pC σ W M B) 8 0 1 = nI B.length := rfl
  have e2 : gN (pC σ W M B) 9 0 = 264 := h9
  rw [e1, e2, if_pos (nI_lt hB (by omega)), idx_nI _ hB (by omega), olet_eq, olet_eq, by8_sb]
  unfold pC
  rw [mkC_M, wrL_snoc]
  have e3 : gI (mkC σ W (wrL sb M 0 (B ++ [uN v % 256])) (nI B.length)) 8 0 1 = nI B.length := rfl
  rw [e3, mkC_z, nI_1, List.length_append]
  rfl
theorem putR_eq {τ : rS} {V : Nat → Int64} {M : Nat → Int32} {c : Int32} {B : List Nat} (b : Nat) : sI (sI (pR τ V M c B) 41 0 B.length (nI b)) 29 0 12 (nI B.length + 1) = pR τ V M c (B ++ [b]) := by
  unfold pR
  rw [mkR_M, wrL_snoc, mkR_z, nI_1, List.length_append]
  rfl
/-- PLAIN: the bytes of a number below 128 to the k + 1 -/
def plainN : Nat → Nat → List Nat
  | 0, u => [u]
  | k + 1, u => if u < 128 then [u] else (u % 128 + 128) :: plainN k (u / 128)
theorem plainN_len : ∀ (k u : Nat), (plainN k u).length ≤ k + 1
  | 0, u => Nat.le_refl _
  | k + 1, u => by
    unfold plainN
    split
    · simp
    · have := plainN_len k (u / 128)
      simp only [List.length_cons]
      omega
theorem plainN_pos : ∀ (k u : Nat), 0 < (plainN k u).length
  | 0, u => Nat.one_pos
  | k + 1, u => by
    unfold plainN
    split <;> simp
theorem plainN_small {k u : Nat} (h : u < 128) : plainN k u = [u] := by
  cases k with
  | zero => rfl
  | succ k => unfold plainN; rw [if_pos h]
theorem plainN_b : ∀ (k u : Nat), u < 128 ^ (k + 1) → ∀ b ∈ plainN k u, b < 256
  | 0, u, h, b, hb => by
    have e : b = u := by simpa [plainN] using hb
    have : (128 : Nat) ^ (0 + 1) = 128 := rfl
    omega
  | k + 1, u, h, b, hb => by
    unfold plainN at hb
    by_cases c : u < 128
    · rw [if_pos c] at hb
      have e : b = u := by simpa using hb
      omega
    · rw [if_neg c] at hb
      rcases List.mem_cons.mp hb with e | e
      · omega
      · refine plainN_b k (u / 128) ?_ b e
        rw [Nat.pow_succ] at h
        exact Nat.div_lt_of_lt_mul (by rw [Nat.mul_comm]; exact h)
theorem plC_loop {N : Nat} {σ : rS} {W : Nat → Int64} {M : Nat → Int32} (h9 : gN σ 9 0 = 264) : ∀ (k n : Nat) (v : Int64) (B : List Nat), k < n → k ≤ 9 → uN v < 128 ^ (k + 1) → B.length + (plainN k (uN v)).length ≤ 264 → L5_packPlain_12 N n 0 v (nI (9 - k)) (pC σ W M B) = some ((), pC σ W M (B ++ plainN k (uN v))) := by
  intro k
  induction k with
  | zero =>
    intro n v B hn hk hv hB
    obtain ⟨m, rfl⟩ : ∃ m', n = m' + 1 := ⟨n - 1, by omega⟩
    show B5_packPlain_12 N (L5_packPlain_12 N m) 0 v (nI 9) (pC σ W M B) = _
    unfold B5_packPlain_12
    have hl : (plainN 0 (uN v)).length = 1 := rfl
    have hv2 : uN v < 128 := hv
    rw [if_pos (show (9 : Int32) ≤ nI 9 by decide), packByte_eq v h9 (by omega), obind_some]
    have e : uN v % 256 = uN v := by omega
    rw [e]
    rfl
  | succ k ih =>
    intro n v B hn hk hv hB
    obtain ⟨m, rfl⟩ : ∃ m', n = m' + 1 := ⟨n - 1, by omega⟩
    show B5_packPlain_12 N (L5_packPlain_12 N m) 0 v (nI (9 - (k + 1))) (pC σ W M B) = _
    unfold B5_packPlain_12
    have c9 : ¬ (9 : Int32) ≤ nI (9 - (k + 1)) := nI_ge (b := 9) (by omega) (by omega)
    have hp := plainN_pos (k + 1) (uN v)
    rw [if_neg c9]
    have el : UInt64.toInt64 (Int64.toUInt64 v >>> (Int64.toUInt64 (Int32.toInt64 7) &&& Int64.toUInt64 63)) = lsr7 v := rfl
    rw [el]
    by_cases c : uN v < 128
    · rw [if_pos ((lsr7_0 v).mpr c), packByte_eq v h9 (by omega), obind_some, plainN_small c]
      have e : uN v % 256 = uN v := by omega
      rw [e]
    · rw [if_neg (fun q => c ((lsr7_0 v).mp q)), packByte_eq _ h9 (by omega), obind_some, olet_eq, nI_1, uN_or128]
      have e1 : plainN (k + 1) (uN v) = (uN v % 128 + 128) :: plainN k (uN v / 128) := by
        show (if uN v < 128 then [uN v] else (uN v % 128 + 128) :: plainN k (uN v / 128)) = _
        rw [if_neg c]
      rw [e1] at hB ⊢
      have e2 : (uN v % 128 + 128) % 256 = uN v % 128 + 128 := by omega
      have e3 : 9 - (k + 1) + 1 = 9 - k := by omega
      rw [e2, e3]
      have hB2 : B.length + ((plainN k (uN v / 128)).length + 1) ≤ 264 := hB
      have hv3 : uN v / 128 < 128 ^ (k + 1) := by
        rw [Nat.pow_succ] at hv
        exact Nat.div_lt_of_lt_mul (by rw [Nat.mul_comm]; exact hv)
      have := ih m (lsr7 v) (B ++ [uN v % 128 + 128]) (by omega) (by omega) (by rw [uN_lsr7]; exact hv3) (by rw [uN_lsr7, List.length_append, List.length_singleton]; omega)
      rw [this, uN_lsr7, List.append_assoc]
      rfl
theorem plR_loop {N : Nat} {τ : rS} {V : Nat → Int64} {M : Nat → Int32} {cc : Int32} (h41 : gN τ 41 0 = 600) : ∀ (k n : Nat) (v : Int64) (B : List Nat), k < n → uN v < 128 ^ (k + 1) → B.length + (plainN k (uN v)).length ≤ 600 → L11_plain_9 N n 0 v (pR τ V M cc B) = some ((), pR τ V M cc (B ++ plainN k (uN v))) := by
  intro k
  induction k with
  | zero =>
    intro n v B hn hv hB
    obtain ⟨m, rfl⟩ : ∃ m', n = m' + 1 := ⟨n - 1, by omega⟩
    show B11_plain_9 N (L11_plain_9 N m) 0 v (pR τ V M cc B) = _
    unfold B11_plain_9
    have hl : (plainN 0 (uN v)).length = 1 := rfl
    have hv2 : uN v < 128 := hv
    have e1 : gI (pR τ V M cc B) 29 0 12 = nI B.length := rfl
    have e2 : gN (pR τ V M cc B) 41 0 = 600 := h41
    rw [if_pos ((and128 v).mpr hv2), e1, e2, idx_nI _ (by omega) (by omega), olet_eq, olet_eq]
    have e3 : gI (sI (pR τ V M cc B) 41 0 B.length (Int64.toInt32 v)) 29 0 12 = nI B.length := rfl
    rw [e3, toI32_nI (by omega), putR_eq]
    rfl
  | succ k ih =>
    intro n v B hn hv hB
    obtain ⟨m, rfl⟩ : ∃ m', n = m' + 1 := ⟨n - 1, by omega⟩
    show B11_plain_9 N (L11_plain_9 N m) 0 v (pR τ V M cc B) = _
    unfold B11_plain_9
    have hp := plainN_pos (k + 1) (uN v)
    have e1 : gI (pR τ V M cc B) 29 0 12 = nI B.length := rfl
    have e2 : gN (pR τ V M cc B) 41 0 = 600 := h41
    have el : UInt64.toInt64 (Int64.toUInt64 v >>> (Int64.toUInt64 (Int32.toInt64 7) &&& Int64.toUInt64 63)) = lsr7 v := rfl
    rw [el, e1, e2]
    by_cases c : uN v < 128
    · rw [if_pos ((and128 v).mpr c), idx_nI _ (by omega) (by omega), olet_eq, olet_eq]
      have e3 : gI (sI (pR τ V M cc B) 41 0 B.length (Int64.toInt32 v)) 29 0 12 = nI B.length := rfl
      rw [e3, toI32_nI (by omega), putR_eq, plainN_small c]
    · rw [if_neg (fun q => c ((and128 v).mp q)), idx_nI _ (by omega) (by omega), olet_eq, olet_eq, olet_eq]
      have e3 : ∀ x, gI (sI (pR τ V M cc B) 41 0 B.length x) 29 0 12 = nI B.length := fun _ => rfl
      have e4 : Int64.toInt32 (v &&& 127) ||| 128 = nI (uN v % 128 + 128) := by
        rw [toI32_nI (by rw [uN_127]; omega), uN_127]
        apply Int32.toBitVec_inj.mp
        apply BitVec.eq_of_toNat_eq
        rw [Int32.toBitVec_or, BitVec.toNat_or, pk_tn (by omega), pk_tn (by omega)]
        exact or128 (Nat.mod_lt _ (by omega))
      rw [e3, e4, putR_eq]
      have e1 : plainN (k + 1) (uN v) = (uN v % 128 + 128) :: plainN k (uN v / 128) := by
        show (if uN v < 128 then [uN v] else (uN v % 128 + 128) :: plainN k (uN v / 128)) = _
        rw [if_neg c]
      rw [e1] at hB ⊢
      have hB2 : B.length + ((plainN k (uN v / 128)).length + 1) ≤ 600 := hB
      have hv3 : uN v / 128 < 128 ^ (k + 1) := by
        rw [Nat.pow_succ] at hv
        exact Nat.div_lt_of_lt_mul (by rw [Nat.mul_comm]; exact hv)
      have := ih m (lsr7 v) (B ++ [uN v % 128 + 128]) (by omega) (by rw [uN_lsr7]; exact hv3) (by rw [uN_lsr7, List.length_append, List.length_singleton]; omega)
      rw [this, uN_lsr7, List.append_assoc]
      rfl
noncomputable def zz (v : Int64) : Int64 := (v <<< (Int32.toInt64 1 &&& 63)) ^^^ (v >>> (Int32.toInt64 63 &&& 63))
noncomputable def plainB (v : Int64) : List Nat := plainN 9 (uN (zz v))
theorem plainB_len (v : Int64) : (plainB v).length ≤ 10 := plainN_len 9 _
theorem zz_lt (v : Int64) : uN (zz v) < 128 ^ (9 + 1) := Nat.lt_of_lt_of_le (uN_lt _) (by decide)
theorem plainB_b (v : Int64) : ∀ b ∈ plainB v, b < 256 := plainN_b 9 _ (zz_lt v)
theorem packPlain_eq {N : Nat} {σ : rS} {W : Nat → Int64} {M : Nat → Int32} {B : List Nat} (hN : 500 ≤ N) (h9 : gN σ 9 0 = 264) (v : Int64) (hB : B.length + (plainB v).length ≤ 264) : f5_packPlain N 0 v (pC σ W M B) = some ((), pC σ W M (B ++ plainB v)) := by
  unfold f5_packPlain
  rw [olet_eq]
  exact plC_loop (N := N) h9 9 N (zz v) B (by omega) (by omega) (zz_lt v) hB
theorem plain_eq {N : Nat} {τ : rS} {V : Nat → Int64} {M : Nat → Int32} {cc : Int32} {B : List Nat} (hN : 500 ≤ N) (h41 : gN τ 41 0 = 600) (v : Int64) (hB : B.length + (plainB v).length ≤ 600) : f11_plain N 0 v (pR τ V M cc B) = some ((), pR τ V M cc (B ++ plainB v)) := by
  unfold f11_plain
  rw [olet_eq]
  exact plR_loop (N := N) h41 9 N (zz v) B (by omega) (zz_lt v) hB
