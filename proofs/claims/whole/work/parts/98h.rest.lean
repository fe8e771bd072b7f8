/-! ===== rest: the class's side ===== -/
theorem lT {n : Nat} (h : n < 2 ^ 63) : (lN n).toInt = (n : Int) := Int64.toInt_ofNat_of_lt h
theorem lU {n : Nat} (h : n < 2 ^ 64) : uN (lN n) = n := by
  show (BitVec.ofNat 64 n).toNat = n
  rw [BitVec.toNat_ofNat, Nat.mod_eq_of_lt h]
theorem lI {v : Int64} {n : Nat} (h : v.toInt = (n : Int)) : v = lN n := by
  have h2 := Int64.toInt_lt v
  apply Int64.toInt_inj.mp
  rw [h, lT (by omega)]
theorem lLe {a b : Nat} (ha : a < 2 ^ 63) (hb : b < 2 ^ 63) : lN a ≤ lN b ↔ a ≤ b := by
  rw [Int64.le_iff_toInt_le, lT ha, lT hb]; omega
theorem lLt {a b : Nat} (ha : a < 2 ^ 63) (hb : b < 2 ^ 63) : lN a < lN b ↔ a < b := by
  rw [Int64.lt_iff_toInt_lt, lT ha, lT hb]; omega
theorem lEq {a b : Nat} (ha : a < 2 ^ 63) (hb : b < 2 ^ 63) : lN a = lN b ↔ a = b := by
  rw [← Int64.toInt_inj, lT ha, lT hb]; omega
theorem shAmt (s : Nat) (hs : s < 64) : ((Int32.toInt64 (nI s) &&& 63).toBitVec.smod 64).toNat = s := by
  have : ∀ m : Fin 64, ((Int32.toInt64 (nI m.1) &&& 63).toBitVec.smod 64).toNat = m.1 := by decide
  exact this ⟨s, hs⟩
theorem lshl {a s : Nat} (hs : s < 64) (h : a * 2 ^ s < 2 ^ 64) : (lN a) <<< (Int32.toInt64 (nI s) &&& 63) = lN (a * 2 ^ s) := by
  apply uN_inj
  have ha : a < 2 ^ 64 := Nat.lt_of_le_of_lt (Nat.le_mul_of_pos_right a (Nat.two_pow_pos s)) h
  rw [shlL _ _ s (shAmt s hs), lU ha, lU h, Nat.mod_eq_of_lt h]
theorem lsar {a s : Nat} (hs : s < 64) (ha : a < 2 ^ 63) : (lN a) >>> (Int32.toInt64 (nI s) &&& 63) = lN (a / 2 ^ s) := by
  apply Int64.toInt_inj.mp
  have h2 : a / 2 ^ s ≤ a := Nat.div_le_self _ _
  rw [sarL _ _ s (shAmt s hs), lT ha, lT (by omega), Int.natCast_ediv, Int.natCast_pow]
  rfl
theorem lrem {a b : Nat} (ha : a < 2 ^ 63) (h0 : 0 < b) (hb : b < 2 ^ 63) : lN a - lN a / lN b * lN b = lN (a % b) := by
  have e1 : (lN a / lN b).toInt = ((a / b : Nat) : Int) := by
    rw [Int64.toInt_div, lT ha, lT hb, ← Int.ofNat_tdiv]
    have h1 : a / b ≤ a := Nat.div_le_self _ _
    generalize a / b = q at h1
    exact Int.bmod_eq_of_le (by omega) (by omega)
  have e2 : lN a / lN b = lN (a / b) := lI e1
  rw [e2]
  have h3 : a / b * b ≤ a := Nat.div_mul_le_self a b
  have e3 : lN (a / b) * lN b = lN (a / b * b) := lN_mul _ _
  rw [e3]
  apply lI
  rw [Int64.toInt_sub, lT ha, lT (by omega)]
  have h4 := Nat.div_add_mod a b
  rw [Nat.mul_comm] at h4
  have e5 : (a : Int) - ((a / b * b : Nat) : Int) = ((a % b : Nat) : Int) := by omega
  rw [e5]
  exact Int.bmod_eq_of_le (by omega) (by omega)
def fbk (k : Int32) : Nat := if k = 6 then 23 else 52
theorem fbk_or (k : Int32) : fbk k = 23 ∨ fbk k = 52 := by
  unfold fbk
  split
  · exact Or.inl rfl
  · exact Or.inr rfl
theorem fb_eq (k : Int32) (σ : rS) : f2_fractionBits k σ = some (nI (fbk k), σ) := by
  unfold f2_fractionBits fbk
  split <;> rfl
def szw (k : Int32) (w : Int64) : Nat := if k = 6 then (w.toInt % 2 ^ 31).toNat else (w.toInt % 2 ^ 63).toNat
theorem szw_lt (k : Int32) (w : Int64) : szw k w < 2 ^ 63 := by
  unfold szw
  split <;> omega
theorem size_eq (k : Int32) (w : Int64) (σ : rS) : f2_sizeOf k w σ = some (lN (szw k w), σ) := by
  unfold f2_sizeOf szw
  by_cases h : k = 6
  · rw [if_pos h, if_pos h]
    congr 2
    apply lI
    rw [m31]
    omega
  · rw [if_neg h, if_neg h]
    congr 2
    apply lI
    rw [m63]
    omega
def infk (k : Int32) : Nat := if k = 6 then 2139095040 else 9218868437227405312
theorem infk_lt (k : Int32) : infk k < 2 ^ 63 := by
  unfold infk
  split <;> omega
theorem endless_eq (k : Int32) (σ : rS) : f2_endless k σ = some (lN (infk k), σ) := by
  unfold f2_endless infk
  split <;> rfl
/-- the fraction with its leading bit, the scale -/
def sfr (fb S : Nat) : Nat := if 2 ^ fb ≤ S then S % 2 ^ fb + 2 ^ fb else S % 2 ^ fb
def scl (fb S : Nat) : Nat := max 1 (S / 2 ^ fb)
theorem one_shl (k : Int32) : (1 : Int64) <<< (Int32.toInt64 (nI (fbk k)) &&& 63) = lN (2 ^ fbk k) := by
  have h := lshl (a := 1) (s := fbk k) (by rcases fbk_or k with e | e <;> rw [e] <;> omega) (by rcases fbk_or k with e | e <;> rw [e] <;> decide)
  rw [Nat.one_mul] at h
  exact h
theorem land_lo {S fb : Nat} (hS : S < 2 ^ 63) (hfb : fb = 23 ∨ fb = 52) : lN S &&& (lN (2 ^ fb) - 1) = lN (S % 2 ^ fb) := by
  have hm : S % 2 ^ fb < 2 ^ 63 := Nat.lt_of_le_of_lt (Nat.mod_le _ _) hS
  have key : ∀ n : Nat, n ≤ 63 → (lN (2 ^ n) - 1).toBitVec.toNat = 2 ^ n - 1 → lN S &&& (lN (2 ^ n) - 1) = lN (S % 2 ^ n) := by
    intro n hn h
    apply lI
    rw [and_mask (lN S) _ n hn h, lT hS, Int.natCast_emod, Int.natCast_pow]
    rfl
  rcases hfb with rfl | rfl
  · exact key 23 (by omega) (by decide)
  · exact key 52 (by omega) (by decide)
theorem sfr_lt {fb S : Nat} : sfr fb S < 2 * 2 ^ fb := by
  unfold sfr
  have := Nat.mod_lt S (Nat.two_pow_pos fb)
  split <;> omega
theorem sfr_eq (k : Int32) {S : Nat} (hS : S < 2 ^ 63) (σ : rS) : f2_scaledFraction k (lN S) σ = some (lN (sfr (fbk k) S), σ) := by
  unfold f2_scaledFraction
  have hfb := fbk_or k
  have hp : 2 ^ fbk k < 2 ^ 63 := by rcases hfb with e | e <;> rw [e] <;> decide
  rw [fb_eq, obind_some, olet_eq, one_shl, olet_eq, land_lo hS hfb]
  unfold sfr
  by_cases c : 2 ^ fbk k ≤ S
  · rw [if_pos ((lLe hp hS).mpr c), if_pos c, lN_add]
  · rw [if_neg (fun q => c ((lLe hp hS).mp q)), if_neg c]
theorem scl_eq (k : Int32) {S : Nat} (hS : S < 2 ^ 63) (hE : S / 2 ^ fbk k < 2 ^ 31) (σ : rS) : f2_scaleOf k (lN S) σ = some (nI (scl (fbk k) S), σ) := by
  unfold f2_scaleOf
  have hfb := fbk_or k
  have h2 : S / 2 ^ fbk k ≤ S := Nat.div_le_self _ _
  have e : Int64.toInt32 (lN (S / 2 ^ fbk k)) = nI (S / 2 ^ fbk k) := toI32_small (lT (by omega)) (by omega)
  rw [fb_eq, obind_some, lsar (by rcases hfb with e | e <;> rw [e] <;> omega) hS, e]
  have m := max_eq 1 (S / 2 ^ fbk k) (by omega) (by omega) σ
  have m' : fJ_max 1 (nI (S / 2 ^ fbk k)) σ = _ := m
  rw [m', obind_some]
  rfl
/-- what a size stands for, in units of the least one -/
def uOf (fb S : Nat) : Nat := if S < 2 ^ fb then S else (2 ^ fb + S % 2 ^ fb) * 2 ^ (S / 2 ^ fb - 1)
theorem uOf_sfr (fb S : Nat) : uOf fb S = sfr fb S * 2 ^ (scl fb S - 1) := by
  unfold uOf sfr scl
  by_cases c : S < 2 ^ fb
  · rw [if_pos c, if_neg (by omega), Nat.mod_eq_of_lt c, Nat.div_eq_of_lt c]
    simp
  · have h1 : 1 ≤ S / 2 ^ fb := (Nat.le_div_iff_mul_le (Nat.two_pow_pos fb)).mpr (by omega)
    rw [if_neg c, if_pos (by omega), Nat.max_eq_right h1, Nat.add_comm]
/-- the size of a fraction at a field -/
theorem uOf_at {fb fr fd : Nat} (h1 : 1 ≤ fd) (h2 : fr < 2 * 2 ^ fb) (h3 : 2 ^ fb ≤ fr ∨ fd = 1) : uOf fb ((fd - 1) * 2 ^ fb + fr) = fr * 2 ^ (fd - 1) := by
  have hp := Nat.two_pow_pos fb
  by_cases c : 2 ^ fb ≤ fr
  · have e : (fd - 1) * 2 ^ fb + fr = (fr - 2 ^ fb) + 2 ^ fb * fd := by
      obtain ⟨g, rfl⟩ : ∃ g, fd = g + 1 := ⟨fd - 1, by omega⟩
      rw [Nat.mul_succ, Nat.add_sub_cancel, Nat.mul_comm]
      omega
    have hge : 2 ^ fb ≤ (fd - 1) * 2 ^ fb + fr := by omega
    unfold uOf
    rw [if_neg (by omega), e, Nat.add_mul_mod_self_left, Nat.add_mul_div_left _ _ hp, Nat.mod_eq_of_lt (by omega), Nat.div_eq_of_lt (by omega), Nat.zero_add]
    congr 1
    omega
  · have e : fd = 1 := by omega
    subst e
    unfold uOf
    rw [Nat.sub_self, Nat.zero_mul, Nat.zero_add, if_pos (by omega), Nat.pow_zero, Nat.mul_one]
theorem szF_loop {N : Nat} {k : Int32} {σ : rS} : ∀ (j n fr fd kk : Nat), j < n → kk + j = fbk k → 2 ^ kk ≤ fr → fr < 2 * 2 ^ fbk k → 1 ≤ fd → fd < 2047 → ∃ S, S < 2 ^ 63 ∧ uOf (fbk k) S = fr * 2 ^ (fd - 1) ∧ L2_sizeFrom_22 N n k (lN fr) (lN (2 ^ fbk k)) (nI fd) (nI kk) σ = some (lN S, σ) := by
  intro j
  have hfb := fbk_or k
  have hp : 2 ^ fbk k ≤ 2 ^ 52 := by rcases hfb with e | e <;> rw [e] <;> decide
  have hfl : fbk k ≤ 52 := by omega
  have fin : ∀ fr fd, fr < 2 * 2 ^ fbk k → 1 ≤ fd → fd < 2047 → (2 ^ fbk k ≤ fr ∨ fd = 1) → ∃ S, S < 2 ^ 63 ∧ uOf (fbk k) S = fr * 2 ^ (fd - 1) ∧ B2_sizeFrom_57 N k (lN fr) (nI fd) σ = some (lN S, σ) := by
    intro fr fd h1 h2 h3 h4
    have hm : (fd - 1) * 2 ^ fbk k ≤ 2045 * 2 ^ 52 := Nat.mul_le_mul (by omega) hp
    refine ⟨(fd - 1) * 2 ^ fbk k + fr, by omega, uOf_at h2 h1 h4, ?_⟩
    unfold B2_sizeFrom_57
    have e1 : Int32.toInt64 (nI fd - 1) = lN (fd - 1) := by
      have e0 : nI fd - 1 = nI (fd - 1) := pk_sub (b := 1) h2
      rw [e0]
      apply lI
      rw [Int32.toInt_toInt64, nI_toInt (by omega)]
    rw [fb_eq, obind_some, e1, lshl (by omega) (by omega), lN_add]
  induction j with
  | zero =>
    intro n fr fd kk hn hk h1 h2 h3 h4
    obtain ⟨m, rfl⟩ : ∃ m', n = m' + 1 := ⟨n - 1, by omega⟩
    have e : kk = fbk k := by omega
    obtain ⟨S, s1, s2, s3⟩ := fin fr fd h2 h3 h4 (Or.inl (by rw [← e]; exact h1))
    refine ⟨S, s1, s2, ?_⟩
    show B2_sizeFrom_22 N (L2_sizeFrom_22 N m) k (lN fr) (lN (2 ^ fbk k)) (nI fd) (nI kk) σ = _
    unfold B2_sizeFrom_22
    rw [fb_eq, obind_some, if_pos (nI_le (by omega) (by omega)), s3]
  | succ j ih =>
    intro n fr fd kk hn hk h1 h2 h3 h4
    obtain ⟨m, rfl⟩ : ∃ m', n = m' + 1 := ⟨n - 1, by omega⟩
    by_cases c : 2 ^ fbk k ≤ fr
    · obtain ⟨S, s1, s2, s3⟩ := fin fr fd h2 h3 h4 (Or.inl c)
      refine ⟨S, s1, s2, ?_⟩
      show B2_sizeFrom_22 N (L2_sizeFrom_22 N m) k (lN fr) (lN (2 ^ fbk k)) (nI fd) (nI kk) σ = _
      unfold B2_sizeFrom_22
      rw [fb_eq, obind_some, if_neg (nI_ge (by omega) (by omega)), if_pos ((lLe (by omega) (by omega)).mpr c), s3]
    · by_cases c1 : fd = 1
      · obtain ⟨S, s1, s2, s3⟩ := fin fr fd h2 h3 h4 (Or.inr c1)
        refine ⟨S, s1, s2, ?_⟩
        show B2_sizeFrom_22 N (L2_sizeFrom_22 N m) k (lN fr) (lN (2 ^ fbk k)) (nI fd) (nI kk) σ = _
        unfold B2_sizeFrom_22
        rw [fb_eq, obind_some, if_neg (nI_ge (by omega) (by omega)), if_neg (fun q => c ((lLe (by omega) (by omega)).mp q)), if_pos (show nI fd ≤ 1 from nI_le (b := 1) (by omega) (by omega)), s3]
      · obtain ⟨S, s1, s2, s3⟩ := ih m (fr * 2) (fd - 1) (kk + 1) (by omega) (by omega) (by rw [Nat.pow_succ]; omega) (by omega) (by omega) (by omega)
        refine ⟨S, s1, ?_, ?_⟩
        · rw [s2, Nat.mul_assoc]
          congr 1
          rw [← Nat.pow_succ']
          congr 1
          omega
        · show B2_sizeFrom_22 N (L2_sizeFrom_22 N m) k (lN fr) (lN (2 ^ fbk k)) (nI fd) (nI kk) σ = _
          unfold B2_sizeFrom_22
          have e1 : (lN fr) <<< (Int32.toInt64 1 &&& 63) = lN (fr * 2) := by
            have := lshl (a := fr) (s := 1) (by omega) (by omega)
            rw [Nat.pow_one] at this
            exact this
          have e2 : nI fd + (-1) = nI (fd - 1) := by
            obtain ⟨g, rfl⟩ : ∃ g, fd = g + 1 := ⟨fd - 1, by omega⟩
            exact pk_m1 g
          rw [fb_eq, obind_some, if_neg (nI_ge (by omega) (by omega)), if_neg (fun q => c ((lLe (by omega) (by omega)).mp q)), if_neg (show ¬ nI fd ≤ 1 from nI_ge (a := 1) (by omega) (by omega)), olet_eq, e1, e2, nI_1]
          exact s3
theorem szF_eq {N : Nat} {k : Int32} {σ : rS} {fr fd : Nat} (hN : 500 ≤ N) (h2 : fr < 2 * 2 ^ fbk k) (h3 : 1 ≤ fd) (h4 : fd < 2047) : ∃ S, S < 2 ^ 63 ∧ uOf (fbk k) S = fr * 2 ^ (fd - 1) ∧ f2_sizeFrom N k (lN fr) (nI fd) σ = some (lN S, σ) := by
  have hfb := fbk_or k
  have hp : 2 ^ fbk k ≤ 2 ^ 52 := by rcases hfb with e | e <;> rw [e] <;> decide
  unfold f2_sizeFrom
  by_cases c : fr = 0
  · subst c
    refine ⟨0, by omega, ?_, ?_⟩
    · unfold uOf
      rw [if_pos (Nat.two_pow_pos _), Nat.zero_mul]
    · rw [if_pos (show lN 0 = 0 from rfl)]
      rfl
  · obtain ⟨S, s1, s2, s3⟩ := szF_loop (N := N) (k := k) (σ := σ) (fbk k) N fr fd 0 (by omega) (by omega) (by rw [Nat.pow_zero]; omega) h2 h3 h4
    refine ⟨S, s1, s2, ?_⟩
    have hne : ¬ lN fr = 0 := fun q => c ((lEq (b := 0) (by omega) (by omega)).mp q)
    rw [if_neg hne, fb_eq, obind_some, olet_eq, one_shl]
    exact s3
noncomputable def wsg (k : Int32) (S : Nat) (neg : Bool) : Int64 := if neg = true then (if k = 6 then lN S ^^^ (-2147483648) else lN S ^^^ (-9223372036854775808)) else lN S
theorem wsg_eq (k : Int32) (S : Nat) (neg : Bool) (σ : rS) : f2_withSign k (lN S) neg σ = some (wsg k S neg, σ) := by
  unfold f2_withSign wsg f2_signBit
  cases neg
  · rfl
  · rw [if_pos rfl, if_pos rfl]
    by_cases h : k = 6
    · rw [if_pos h, if_pos h]; rfl
    · rw [if_neg h, if_neg h]; rfl
theorem min10 (a : Nat) (ha : a < 2 ^ 31) (σ : rS) : fJ_min (nI a) 10 σ = some (nI (min a 10), σ) := min_eq a 10 ha (by omega) σ
theorem rst_loop {N : Nat} {k : Int32} {v1 : Int64} {σ : rS} {dv sc : Nat} (hN : 500 ≤ N) (hd0 : 0 < dv) (hdv : dv < 2 * 2 ^ fbk k) (h1 : 1 ≤ sc) (h2 : sc < 2047) : ∀ (F n left steps : Nat), F < n → steps ≤ 10 * F → steps < 3000 → left < dv → ∃ S, S < 2 ^ 63 ∧ uOf (fbk k) S = (left * 2 ^ steps % dv) * 2 ^ (sc - 1) ∧ L2_restOf_71 N n k v1 (lN dv) (nI sc) (lN left) (nI steps) σ = some (wsg k S (decide (v1.toInt < 0)), σ) := by
  intro F
  have hfb := fbk_or k
  have hp : 2 ^ fbk k ≤ 2 ^ 52 := by rcases hfb with e | e <;> rw [e] <;> decide
  have fin : ∀ n left, 0 < n → left < dv → ∃ S, S < 2 ^ 63 ∧ uOf (fbk k) S = (left * 2 ^ 0 % dv) * 2 ^ (sc - 1) ∧ L2_restOf_71 N n k v1 (lN dv) (nI sc) (lN left) (nI 0) σ = some (wsg k S (decide (v1.toInt < 0)), σ) := by
    intro n left hn hl
    obtain ⟨m, rfl⟩ : ∃ m', n = m' + 1 := ⟨n - 1, by omega⟩
    obtain ⟨S, s1, s2, s3⟩ := szF_eq (N := N) (k := k) (σ := σ) (fr := left) (fd := sc) hN (by omega) h1 h2
    refine ⟨S, s1, ?_, ?_⟩
    · rw [s2, Nat.pow_zero, Nat.mul_one, Nat.mod_eq_of_lt hl]
    · show B2_restOf_71 N (L2_restOf_71 N m) k v1 (lN dv) (nI sc) (lN left) (nI 0) σ = _
      unfold B2_restOf_71
      rw [if_pos (show nI 0 ≤ 0 by decide), s3, obind_some]
      have q : (0 : Int64) ≤ v1 ↔ ¬ v1.toInt < 0 := by rw [Int64.le_iff_toInt_le, l0i]; omega
      by_cases c : v1.toInt < 0
      · rw [if_neg (fun w => q.mp w c), wsg_eq, obind_some, decide_eq_true c]
      · rw [if_pos (q.mpr c), wsg_eq, obind_some, decide_eq_false c]
  induction F with
  | zero =>
    intro n left steps hn hs hs2 hl
    have e : steps = 0 := by omega
    subst e
    exact fin n left hn hl
  | succ F ih =>
    intro n left steps hn hs hs2 hl
    by_cases c : steps = 0
    · subst c
      exact fin n left (by omega) hl
    · obtain ⟨m, rfl⟩ : ∃ m', n = m' + 1 := ⟨n - 1, by omega⟩
      have hsh : min steps 10 ≤ 10 := by omega
      have hpw : 2 ^ (min steps 10) ≤ 2 ^ 10 := Nat.pow_le_pow_right (by omega) hsh
      have hb : left * 2 ^ (min steps 10) ≤ 2 ^ 53 * 2 ^ 10 := Nat.mul_le_mul (by omega) hpw
      have hb2 : left * 2 ^ (min steps 10) < 2 ^ 63 := by
        have hb3 : left * 2 ^ (min steps 10) ≤ (2 ^ 53 - 1) * 2 ^ 10 := Nat.mul_le_mul (by omega) hpw
        omega
      obtain ⟨S, s1, s2, s3⟩ := ih m (left * 2 ^ (min steps 10) % dv) (steps - min steps 10) (by omega) (by omega) (by omega) (Nat.mod_lt _ hd0)
      refine ⟨S, s1, ?_, ?_⟩
      · rw [s2, Nat.mod_mul_mod, Nat.mul_assoc, ← Nat.pow_add, show min steps 10 + (steps - min steps 10) = steps by omega]
      · show B2_restOf_71 N (L2_restOf_71 N m) k v1 (lN dv) (nI sc) (lN left) (nI steps) σ = _
        unfold B2_restOf_71
        have hne : ¬ lN dv = 0 := fun q => by
          have := (lEq (a := dv) (b := 0) (by omega) (by omega)).mp q
          omega
        rw [if_neg (nI_nle (by omega) (by omega)), min10 steps (by omega), obind_some, ock_pos hne, olet_eq, olet_eq, lshl (by omega) (by omega), lrem hb2 hd0 (by omega), pk_sub (by omega)]
        exact s3
