/-! ===== shape: rounding, the class's side ===== -/
theorem uOf_E {fb E y : Nat} (hE : 1 ≤ E) (hy : y ≤ 2 ^ fb) : uOf fb (E * 2 ^ fb + y) = (2 ^ fb + y) * 2 ^ (E - 1) := by
  have hp := Nat.two_pow_pos fb
  by_cases c : y < 2 ^ fb
  · have := uOf_at (fb := fb) (fr := 2 ^ fb + y) (fd := E) hE (by omega) (Or.inl (by omega))
    have e : (E - 1) * 2 ^ fb + (2 ^ fb + y) = E * 2 ^ fb + y := by
      obtain ⟨g, rfl⟩ : ∃ g, E = g + 1 := ⟨E - 1, by omega⟩
      rw [Nat.add_sub_cancel, Nat.succ_mul]
      omega
    rw [e] at this
    exact this
  · have e : y = 2 ^ fb := by omega
    subst e
    have := uOf_at (fb := fb) (fr := 2 ^ fb) (fd := E + 1) (by omega) (by omega) (Or.inl (Nat.le_refl _))
    have e : (E + 1 - 1) * 2 ^ fb + 2 ^ fb = E * 2 ^ fb + 2 ^ fb := by rw [Nat.add_sub_cancel]
    rw [e] at this
    rw [this, Nat.add_sub_cancel]
    obtain ⟨g, rfl⟩ : ∃ g, E = g + 1 := ⟨E - 1, by omega⟩
    rw [Nat.add_sub_cancel, Nat.pow_succ, Nat.add_mul, ← Nat.mul_assoc]
    omega
/-- the rounded size, in ones -/
def rUp (way : Int32) (neg : Bool) (M P : Nat) : Prop := M % P ≠ 0 ∧ (if way = 1 then neg = true else if way = 2 then neg = false else (P < 2 * (M % P) ∨ (P = 2 * (M % P) ∧ M / P % 2 = 1)))
noncomputable def rA (way : Int32) (neg : Bool) (M P : Nat) : Nat := M / P + @ite Nat (rUp way neg M P) (Classical.propDecidable _) 1 0
theorem rA_up {way : Int32} {neg : Bool} {M P : Nat} (h : rUp way neg M P) : rA way neg M P = M / P + 1 := by
  unfold rA
  rw [if_pos h]
theorem rA_dn {way : Int32} {neg : Bool} {M P : Nat} (h : ¬ rUp way neg M P) : rA way neg M P = M / P := by
  unfold rA
  rw [if_neg h, Nat.add_zero]
theorem rA_0 {way : Int32} {neg : Bool} {M P : Nat} (h : M % P = 0) : rA way neg M P * P = M := by
  rw [rA_dn (fun q => q.1 h)]
  have := Nat.div_add_mod M P
  rw [h, Nat.add_zero, Nat.mul_comm] at this
  exact this
noncomputable def gup (way : Int32) (below : Bool) (c : Int32) (odd : Bool) : Bool := if way = 1 then below else if way = 2 then !below else (decide (0 < c) || (decide (c = 0) && odd))
theorem gup_eq (way : Int32) (below : Bool) (c : Int32) (odd : Bool) (σ : rS) : f2_goesUp way below c odd σ = some (gup way below c odd, σ) := by
  unfold f2_goesUp gup
  by_cases h1 : way = 1
  · rw [if_pos h1, if_pos h1]
  · rw [if_neg h1, if_neg h1]
    by_cases h2 : way = 2
    · rw [if_pos h2, if_pos h2]
      cases below <;> rfl
    · rw [if_neg h2, if_neg h2]
      by_cases h3 : 0 < c
      · rw [if_pos h3, decide_eq_true h3]; rfl
      · rw [if_neg h3, decide_eq_false h3]
        by_cases h4 : c = 0
        · rw [if_pos h4, decide_eq_true h4]
          cases odd <;> rfl
        · rw [if_neg h4, decide_eq_false h4]; rfl
/-- how a comparison of the part with a half decides -/
theorem gup_iff {way : Int32} {neg odd : Bool} {part half a : Nat} (h0 : part ≠ 0) (ho : odd = decide (a % 2 = 1)) : gup way neg (if (part : Int) < (half : Int) then -1 else if (part : Int) = (half : Int) then 0 else 1) odd = true ↔ (if way = 1 then neg = true else if way = 2 then neg = false else (half < part ∨ (half = part ∧ a % 2 = 1))) := by
  unfold gup
  by_cases h1 : way = 1
  · rw [if_pos h1, if_pos h1]
  · rw [if_neg h1, if_neg h1]
    by_cases h2 : way = 2
    · rw [if_pos h2, if_pos h2]
      cases neg <;> simp
    · rw [if_neg h2, if_neg h2, ho]
      by_cases c1 : (part : Int) < (half : Int)
      · rw [if_pos c1]
        constructor
        · intro q
          exact absurd q (by simp)
        · intro q
          omega
      · rw [if_neg c1]
        by_cases c2 : (part : Int) = (half : Int)
        · rw [if_pos c2]
          have e : half = part := by omega
          simp [e]
        · rw [if_neg c2]
          constructor
          · intro _
            exact Or.inl (by omega)
          · intro _
            rfl
theorem land_lo' {S n : Nat} (hS : S < 2 ^ 63) (hn : n ≤ 62) : lN S &&& (lN (2 ^ n) - 1) = lN (S % 2 ^ n) := by
  have hp : 2 ^ n ≤ 2 ^ 62 := Nat.pow_le_pow_right (by omega) hn
  have hp0 := Nat.two_pow_pos n
  have e : lN (2 ^ n) - 1 = lN (2 ^ n - 1) := by
    apply lI
    have l1 : (1 : Int64).toInt = 1 := rfl
    rw [Int64.toInt_sub, lT (by omega), l1]
    rw [Int.bmod_eq_of_le (by omega) (by omega)]
    omega
  have hm : S % 2 ^ n ≤ S := Nat.mod_le _ _
  apply uN_inj
  rw [e, uN_and, lU (by omega), lU (by omega), lU (by omega), Nat.and_two_pow_sub_one_eq_mod]
theorem land_bit {S n : Nat} (hS : S < 2 ^ 63) (hn : n ≤ 62) : lN S &&& lN (2 ^ n) = 0 ↔ S / 2 ^ n % 2 = 0 := by
  have hp : 2 ^ n ≤ 2 ^ 62 := Nat.pow_le_pow_right (by omega) hn
  have hp0 := Nat.two_pow_pos n
  have e : uN (lN S &&& lN (2 ^ n)) = S &&& 2 ^ n := by
    rw [uN_and, lU (by omega), lU (by omega)]
  have e0 : uN 0 = 0 := rfl
  constructor
  · intro q
    rw [q, e0] at e
    have t : (S &&& 2 ^ n).testBit n = false := by rw [← e]; exact Nat.zero_testBit n
    rw [Nat.testBit_and, Nat.testBit_two_pow_self, Bool.and_true, Nat.testBit_eq_decide_div_mod_eq, decide_eq_false_iff_not] at t
    omega
  · intro q
    apply uN_inj
    rw [e, e0]
    apply Nat.eq_of_testBit_eq
    intro i
    rw [Nat.testBit_and, Nat.testBit_two_pow, Nat.zero_testBit]
    by_cases c : n = i
    · subst c
      rw [Nat.testBit_eq_decide_div_mod_eq, decide_eq_false (by omega)]
      rfl
    · rw [decide_eq_false c, Bool.and_false]
def bsk (k : Int32) : Nat := if k = 6 then 127 else 1023
theorem bs_eq (k : Int32) (σ : rS) : f2_bias k σ = some (nI (bsk k), σ) := by
  unfold f2_bias bsk
  split <;> rfl
theorem bsk_or (k : Int32) : (fbk k = 23 ∧ bsk k = 127) ∨ (fbk k = 52 ∧ bsk k = 1023) := by
  unfold fbk bsk
  by_cases h : k = 6
  · rw [if_pos h, if_pos h]; exact Or.inl ⟨rfl, rfl⟩
  · rw [if_neg h, if_neg h]; exact Or.inr ⟨rfl, rfl⟩
/-- one, in units of the least number -/
def pk1 (k : Int32) : Nat := 2 ^ (bsk k - 1 + fbk k)
theorem pk1_pos (k : Int32) : 0 < pk1 k := Nat.two_pow_pos _
theorem cmpR {M P R h : Nat} (hR : 0 < R) : (2 ^ h * R < 2 * (M * R) ↔ 2 ^ h < 2 * M) ∧ (2 ^ h * R = 2 * (M * R) ↔ 2 ^ h = 2 * M) := by
  have e : 2 * (M * R) = 2 * M * R := by rw [Nat.mul_assoc]
  rw [e]
  exact ⟨Nat.mul_lt_mul_right hR, Nat.mul_right_cancel_iff hR⟩
/-- a size whose exponent is from one's on, below the fraction's width: its part and its whole -/
theorem mid_units {fb B S : Nat} (hB : 1 ≤ B) (h1 : B ≤ S / 2 ^ fb) (h2 : S / 2 ^ fb < B + fb) : uOf fb S / 2 ^ (B - 1 + fb) = (2 ^ fb + S % 2 ^ fb) / 2 ^ (fb - (S / 2 ^ fb - B)) ∧ uOf fb S % 2 ^ (B - 1 + fb) = (S % 2 ^ (fb - (S / 2 ^ fb - B))) * 2 ^ (S / 2 ^ fb - 1) ∧ 2 ^ (B - 1 + fb) = 2 ^ (fb - (S / 2 ^ fb - B)) * 2 ^ (S / 2 ^ fb - 1) ∧ (2 ^ fb + S % 2 ^ fb) % 2 ^ (fb - (S / 2 ^ fb - B)) = S % 2 ^ (fb - (S / 2 ^ fb - B)) := by
  have hp := Nat.two_pow_pos fb
  have hS := Nat.div_add_mod S (2 ^ fb)
  have hT := Nat.mod_lt S hp
  have hM : uOf fb S = (2 ^ fb + S % 2 ^ fb) * 2 ^ (S / 2 ^ fb - 1) := by
    have := uOf_E (fb := fb) (E := S / 2 ^ fb) (y := S % 2 ^ fb) (by omega) (by omega)
    rw [Nat.mul_comm, hS] at this
    exact this
  have hP : 2 ^ (B - 1 + fb) = 2 ^ (fb - (S / 2 ^ fb - B)) * 2 ^ (S / 2 ^ fb - 1) := by
    rw [← Nat.pow_add]
    congr 1
    omega
  have hdv : 2 ^ fb = 2 ^ (fb - (S / 2 ^ fb - B)) * 2 ^ (S / 2 ^ fb - B) := by
    rw [← Nat.pow_add]
    congr 1
    omega
  have hq : (2 ^ fb + S % 2 ^ fb) % 2 ^ (fb - (S / 2 ^ fb - B)) = S % 2 ^ (fb - (S / 2 ^ fb - B)) := by
    have key : ∀ (T c d p : Nat), p = c * d → (p + T) % c = T % c := by
      intro T c d p h
      subst h
      exact Nat.mul_add_mod _ _ _
    have e1 : (2 ^ fb + S % 2 ^ fb) % 2 ^ (fb - (S / 2 ^ fb - B)) = (S % 2 ^ fb) % 2 ^ (fb - (S / 2 ^ fb - B)) := key _ _ _ _ hdv
    rw [e1, Nat.mod_mod_of_dvd]
    exact ⟨_, hdv⟩
  refine ⟨?_, ?_, hP, hq⟩
  · rw [hM, hP, Nat.mul_div_mul_right _ _ (Nat.two_pow_pos _)]
  · rw [hM, hP, Nat.mul_mod_mul_right, hq]
theorem rndC_mid {k : Int32} {v1 : Int64} {way : Int32} {neg : Bool} {S : Nat} {σ : rS} (hS : S < 2 ^ 63) (h1 : bsk k ≤ S / 2 ^ fbk k) (h2 : S / 2 ^ fbk k < bsk k + fbk k) (hv : v1 = wsg k S neg) : ∃ S', S' < 2 ^ 63 ∧ uOf (fbk k) S' = rA way neg (uOf (fbk k) S) (pk1 k) * pk1 k ∧ B2_rounded_18 k v1 way (lN S) neg σ = some (wsg k S' neg, σ) := by
  have hbb := bsk_or k
  have hB : 1 ≤ bsk k := by omega
  have hfb0 : 1 ≤ fbk k := by omega
  have hfb : fbk k ≤ 52 := by omega
  have hbs : bsk k ≤ 1023 := by omega
  obtain ⟨m1, m2, m3, m4⟩ := mid_units hB h1 h2
  have hdivle : S / 2 ^ fbk k ≤ S := Nat.div_le_self _ _
  have hS0 : S ≠ 0 := by
    intro q
    rw [q, Nat.zero_div] at h1
    omega
  have hDM := Nat.div_add_mod S (2 ^ fbk k)
  have hTlt := Nat.mod_lt S (Nat.two_pow_pos (fbk k))
  have hSs : S < 2 ^ 63 - 2 ^ 53 := by
    have q1 : S < (bsk k + fbk k) * 2 ^ fbk k := (Nat.div_lt_iff_lt_mul (Nat.two_pow_pos _)).mp h2
    have q2 : (bsk k + fbk k) * 2 ^ fbk k ≤ 1075 * 2 ^ 52 := Nat.mul_le_mul (by omega) (Nat.pow_le_pow_right (by omega) hfb)
    omega
  unfold B2_rounded_18
  have eE : Int64.toInt32 (lN (S / 2 ^ fbk k)) = nI (S / 2 ^ fbk k) := toI32_small (lT (by omega)) (by omega)
  have hne : ¬ lN S = 0 := fun q => hS0 ((lEq (b := 0) hS (by omega)).mp q)
  rw [fb_eq, obind_some, bs_eq, obind_some, olet_eq, lsar (by omega) hS, eE, pk_sub h1, if_neg hne, fb_eq, obind_some, if_pos (nI_lt (by omega) (by omega)), if_pos (nI_pos' (by omega)), fb_eq, obind_some, olet_eq, pk_sub (by omega), olet_eq]
  generalize hpb : fbk k - (S / 2 ^ fbk k - bsk k) = pb at *
  have hpb1 : 1 ≤ pb := by omega
  have hpb2 : pb ≤ fbk k := by omega
  have hu := Nat.two_pow_pos pb
  have hule : 2 ^ pb ≤ 2 ^ 52 := Nat.pow_le_pow_right (by omega) (by omega)
  have eu : (1 : Int64) <<< (Int32.toInt64 (nI pb) &&& 63) = lN (2 ^ pb) := by
    have := lshl (a := 1) (s := pb) (by omega) (by omega)
    rw [Nat.one_mul] at this
    exact this
  rw [eu, olet_eq, land_lo' hS (by omega)]
  have hpart := Nat.mod_lt S hu
  have hparle := Nat.mod_le S (2 ^ pb)
  by_cases c0 : S % 2 ^ pb = 0
  · rw [if_pos (by rw [c0]; rfl)]
    refine ⟨S, hS, ?_, by rw [hv]⟩
    have : uOf (fbk k) S % pk1 k = 0 := by
      show uOf (fbk k) S % 2 ^ (bsk k - 1 + fbk k) = 0
      rw [m2, c0, Nat.zero_mul]
    exact (rA_0 this).symm
  · have hneP : ¬ lN (S % 2 ^ pb) = 0 := fun q => c0 ((lEq (b := 0) (by omega) (by omega)).mp q)
    rw [if_neg hneP]
    have hR := Nat.two_pow_pos (S / 2 ^ fbk k - 1)
    have hrne : uOf (fbk k) S % pk1 k ≠ 0 := by
      show uOf (fbk k) S % 2 ^ (bsk k - 1 + fbk k) ≠ 0
      rw [m2]
      exact Nat.mul_ne_zero c0 (by omega)
    have hodd : ∀ b : Bool, b = decide (S / 2 ^ pb % 2 = 1) → B2_rounded_144 k way (lN S) neg (lN (2 ^ pb)) (lN (S % 2 ^ pb)) b σ = some (wsg k (if gup way neg (if ((S % 2 ^ pb : Nat) : Int) < ((2 ^ (pb - 1) : Nat) : Int) then -1 else if ((S % 2 ^ pb : Nat) : Int) = ((2 ^ (pb - 1) : Nat) : Int) then 0 else 1) b = true then S - S % 2 ^ pb + 2 ^ pb else S - S % 2 ^ pb) neg, σ) := by
      intro b hb
      unfold B2_rounded_144
      have e1 : (lN (2 ^ pb)) >>> (Int32.toInt64 1 &&& 63) = lN (2 ^ (pb - 1)) := by
        have := lsar (a := 2 ^ pb) (s := 1) (by omega) (by omega)
        have e2 : 2 ^ pb / 2 ^ 1 = 2 ^ (pb - 1) := Nat.pow_div (by omega) (by omega)
        rw [e2] at this
        exact this
      have hh : 2 ^ (pb - 1) ≤ 2 ^ pb := Nat.pow_le_pow_right (by omega) (by omega)
      have es : lN S - lN (S % 2 ^ pb) = lN (S - S % 2 ^ pb) := by
        apply lI
        rw [Int64.toInt_sub, lT hS, lT (by omega)]
        rw [Int.bmod_eq_of_le (by omega) (by omega)]
        omega
      rw [e1, jcmp_eq, obind_some, lT (by omega), lT (by omega), gup_eq, obind_some, es]
      by_cases cu : gup way neg (if ((S % 2 ^ pb : Nat) : Int) < ((2 ^ (pb - 1) : Nat) : Int) then -1 else if ((S % 2 ^ pb : Nat) : Int) = ((2 ^ (pb - 1) : Nat) : Int) then 0 else 1) b = true
      · rw [if_pos cu, if_pos cu, lN_add, wsg_eq, obind_some]
      · have e0 : lN (S - S % 2 ^ pb) + 0 = lN (S - S % 2 ^ pb) := Int64.add_zero _
        rw [if_neg cu, if_neg cu, e0, wsg_eq, obind_some]
    -- the bit above the part tells whether the whole is odd
    have hobit : S / 2 ^ pb % 2 = (uOf (fbk k) S / pk1 k) % 2 := by
      show S / 2 ^ pb % 2 = (uOf (fbk k) S / 2 ^ (bsk k - 1 + fbk k)) % 2
      rw [m1]
      have e2 : 2 ^ fbk k = 2 ^ pb * 2 ^ (fbk k - pb) := by
        rw [← Nat.pow_add]
        congr 1
        omega
      have e3 : S / 2 ^ pb = 2 ^ (fbk k - pb) * (S / 2 ^ fbk k) + (S % 2 ^ fbk k) / 2 ^ pb := by
        have e4 : S = 2 ^ pb * (2 ^ (fbk k - pb) * (S / 2 ^ fbk k)) + S % 2 ^ fbk k := by
          rw [← Nat.mul_assoc, ← e2]
          exact hDM.symm
        have e5 : S / 2 ^ pb = (2 ^ pb * (2 ^ (fbk k - pb) * (S / 2 ^ fbk k)) + S % 2 ^ fbk k) / 2 ^ pb := by rw [← e4]
        rw [e5, Nat.mul_add_div hu]
      have e6 : (2 ^ fbk k + S % 2 ^ fbk k) / 2 ^ pb = 2 ^ (fbk k - pb) + (S % 2 ^ fbk k) / 2 ^ pb := by
        generalize S % 2 ^ fbk k = T
        rw [e2, Nat.mul_add_div hu]
      rw [e3, e6]
      by_cases cz : pb = fbk k
      · have e7 : fbk k - pb = 0 := by omega
        have e8 : S / 2 ^ fbk k % 2 = 1 := by omega
        rw [e7, Nat.pow_zero, Nat.one_mul]
        omega
      · obtain ⟨g, hg⟩ : ∃ g, fbk k - pb = g + 1 := ⟨fbk k - pb - 1, by omega⟩
        rw [hg, Nat.pow_succ, Nat.mul_comm (2 ^ g) 2, Nat.mul_assoc]
        omega
    have hgl : B2_rounded_144 k way (lN S) neg (lN (2 ^ pb)) (lN (S % 2 ^ pb)) (decide (S / 2 ^ pb % 2 = 1)) σ = (if lN S &&& lN (2 ^ pb) = 0 then B2_rounded_144 k way (lN S) neg (lN (2 ^ pb)) (lN (S % 2 ^ pb)) false σ else B2_rounded_144 k way (lN S) neg (lN (2 ^ pb)) (lN (S % 2 ^ pb)) true σ) := by
      have hb := land_bit hS (n := pb) (by omega)
      by_cases c : S / 2 ^ pb % 2 = 0
      · rw [if_pos (hb.mpr c), decide_eq_false (by omega)]
      · rw [if_neg (fun q => c (hb.mp q)), decide_eq_true (by omega)]
    rw [← hgl, hodd _ rfl]
    have hg := gup_iff (way := way) (neg := neg) (odd := decide (S / 2 ^ pb % 2 = 1)) (part := S % 2 ^ pb) (half := 2 ^ (pb - 1)) (a := S / 2 ^ pb) c0 rfl
    have hh2 : 2 ^ pb = 2 * 2 ^ (pb - 1) := by
      obtain ⟨g, rfl⟩ : ∃ g, pb = g + 1 := ⟨pb - 1, by omega⟩
      rw [Nat.add_sub_cancel, Nat.pow_succ, Nat.mul_comm]
    have hup : gup way neg (if ((S % 2 ^ pb : Nat) : Int) < ((2 ^ (pb - 1) : Nat) : Int) then -1 else if ((S % 2 ^ pb : Nat) : Int) = ((2 ^ (pb - 1) : Nat) : Int) then 0 else 1) (decide (S / 2 ^ pb % 2 = 1)) = true ↔ rUp way neg (uOf (fbk k) S) (pk1 k) := by
      rw [hg]
      unfold rUp
      have em : uOf (fbk k) S % pk1 k = S % 2 ^ pb * 2 ^ (S / 2 ^ fbk k - 1) := m2
      have ep : pk1 k = 2 ^ pb * 2 ^ (S / 2 ^ fbk k - 1) := m3
      have hc := cmpR (M := S % 2 ^ pb) (P := 0) (R := 2 ^ (S / 2 ^ fbk k - 1)) (h := pb) hR
      by_cases w1 : way = 1
      · rw [if_pos w1, if_pos w1]
        exact ⟨fun q => ⟨hrne, q⟩, fun q => q.2⟩
      · rw [if_neg w1, if_neg w1]
        by_cases w2 : way = 2
        · rw [if_pos w2, if_pos w2]
          exact ⟨fun q => ⟨hrne, q⟩, fun q => q.2⟩
        · rw [if_neg w2, if_neg w2, ← hobit]
          have x1 : pk1 k < 2 * (uOf (fbk k) S % pk1 k) ↔ 2 ^ (pb - 1) < S % 2 ^ pb := by
            rw [em, ep, hc.1]; omega
          have x2 : pk1 k = 2 * (uOf (fbk k) S % pk1 k) ↔ 2 ^ (pb - 1) = S % 2 ^ pb := by
            rw [em, ep, hc.2]; omega
          rw [x1, x2]
          exact ⟨fun q => ⟨hrne, q⟩, fun q => q.2⟩
    -- the values
    have hE1 : 1 ≤ S / 2 ^ fbk k := by omega
    have hpT : S % 2 ^ pb ≤ S % 2 ^ fbk k := by
      rw [← m4]
      have e2 : 2 ^ fbk k = 2 ^ pb * 2 ^ (fbk k - pb) := by
        rw [← Nat.pow_add]
        congr 1
        omega
      have e3 : (2 ^ fbk k + S % 2 ^ fbk k) % 2 ^ pb = (S % 2 ^ fbk k) % 2 ^ pb := by
        generalize S % 2 ^ fbk k = T
        rw [e2, Nat.mul_add_mod]
      rw [e3]
      exact Nat.mod_le _ _
    have hqd := Nat.div_add_mod (2 ^ fbk k + S % 2 ^ fbk k) (2 ^ pb)
    rw [m4] at hqd
    have hT2 : S % 2 ^ fbk k - S % 2 ^ pb + 2 ^ pb ≤ 2 ^ fbk k := by
      have e2 : 2 ^ fbk k = 2 ^ pb * 2 ^ (fbk k - pb) := by
        rw [← Nat.pow_add]
        congr 1
        omega
      have e4 : (2 ^ fbk k + S % 2 ^ fbk k) / 2 ^ pb < 2 * 2 ^ (fbk k - pb) := by
        rw [Nat.div_lt_iff_lt_mul hu, Nat.mul_assoc, Nat.mul_comm (2 ^ (fbk k - pb)), ← e2]
        omega
      have e5 : 2 ^ pb * ((2 ^ fbk k + S % 2 ^ fbk k) / 2 ^ pb + 1) ≤ 2 ^ pb * (2 * 2 ^ (fbk k - pb)) := Nat.mul_le_mul_left _ e4
      rw [Nat.mul_add, Nat.mul_one, Nat.mul_left_comm, ← e2] at e5
      omega
    have hA : uOf (fbk k) S / pk1 k = (2 ^ fbk k + S % 2 ^ fbk k) / 2 ^ pb := m1
    have ep : pk1 k = 2 ^ pb * 2 ^ (S / 2 ^ fbk k - 1) := m3
    have eS1 : S - S % 2 ^ pb = S / 2 ^ fbk k * 2 ^ fbk k + (S % 2 ^ fbk k - S % 2 ^ pb) := by
      rw [Nat.mul_comm]
      omega
    by_cases cu : rUp way neg (uOf (fbk k) S) (pk1 k)
    · refine ⟨S - S % 2 ^ pb + 2 ^ pb, by omega, ?_, by rw [if_pos (hup.mpr cu)]⟩
      have eS2 : S - S % 2 ^ pb + 2 ^ pb = S / 2 ^ fbk k * 2 ^ fbk k + (S % 2 ^ fbk k - S % 2 ^ pb + 2 ^ pb) := by omega
      rw [eS2, uOf_E hE1 hT2, rA_up cu, hA, ep, ← Nat.mul_assoc]
      congr 1
      rw [Nat.add_mul, Nat.one_mul, Nat.mul_comm _ (2 ^ pb)]
      omega
    · refine ⟨S - S % 2 ^ pb, by omega, ?_, by rw [if_neg (fun q => cu (hup.mp q))]⟩
      rw [eS1, uOf_E hE1 (by omega), rA_dn cu, hA, ep, ← Nat.mul_assoc]
      congr 1
      rw [Nat.mul_comm _ (2 ^ pb)]
      omega
