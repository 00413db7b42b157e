def qs1 (x : Int64) : Int64 := x - ((jlushr x 1) &&& 6148914691236517205)
def qs2 (x : Int64) : Int64 := (x &&& 3689348814741910323) + ((jlushr x 2) &&& 3689348814741910323)
def qs3 (x : Int64) : Int64 := (x + jlushr x 4) &&& 1085102592571150095
def qs4 (x : Int64) : Int64 := x + jlushr x 8
def qs5 (x : Int64) : Int64 := x + jlushr x 16
def qs6 (x : Int64) : Int64 := x + jlushr x 32
theorem bc_chain (x : Int64) : mJ13_bitCount_95d88 x = ((qs6 (qs5 (qs4 (qs3 (qs2 (qs1 x)))))).toInt32 &&& 127) := rfl
/-- the masks of n bytes -/
def mk (v : Nat) : Nat → Nat
  | 0 => 0
  | n + 1 => v + 256 * mk v n
theorem mk_mod (v n : Nat) (h : v < 256) : mk v (n + 1) % 256 = v := by rw [mk]; omega
theorem mk_div (v n : Nat) (h : v < 256) : mk v (n + 1) / 256 = mk v n := by rw [mk]; omega
theorem land_split (a b : Nat) : a &&& b = ((a % 256) &&& (b % 256)) + 256 * ((a / 256) &&& (b / 256)) := by
  have h1 := Nat.and_mod_two_pow (a := a) (b := b) (n := 8)
  have h2 := Nat.and_div_two_pow (a := a) (b := b) (n := 8)
  have h3 : (2 : Nat) ^ 8 = 256 := rfl
  rw [h3] at h1 h2
  rw [← h1, ← h2]
  omega
def f1 (b : Nat) : Nat := b - ((b / 2) &&& 85)
def f2 (b : Nat) : Nat := (b &&& 51) + ((b / 4) &&& 51)
def f3 (b : Nat) : Nat := (b + b / 16) &&& 15
/-- by bytes -/
def byF (f : Nat → Nat) : Nat → Nat → Nat
  | 0, _ => 0
  | n + 1, m => f (m % 256) + 256 * byF f n (m / 256)
theorem t85 : ∀ b, b < 256 → ∀ c, c < 2 → ((b / 2 + 128 * c) &&& 85) = ((b / 2) &&& 85) ∧ ((b / 2) &&& 85) ≤ b := by decide +kernel
theorem t51 : ∀ b, b < 256 → ∀ c, c < 4 → ((b / 4 + 64 * c) &&& 51) = ((b / 4) &&& 51) := by decide +kernel
theorem st1 : ∀ (n m : Nat), m < 256 ^ n → m - ((m / 2) &&& mk 85 n) = byF f1 n m ∧ ((m / 2) &&& mk 85 n) ≤ m := by
  intro n
  induction n with
  | zero => intro m h; rw [Nat.pow_zero] at h; have e : m = 0 := by omega
            subst e; exact ⟨rfl, Nat.le_refl 0⟩
  | succ n ih =>
    intro m h
    rw [Nat.pow_succ] at h
    have ih' := ih (m / 256) (by omega)
    rw [land_split (m / 2), mk_mod 85 n (by decide), mk_div 85 n (by decide)]
    have e1 : m / 2 % 256 = (m % 256) / 2 + 128 * ((m / 256) % 2) := by omega
    have e2 : m / 2 / 256 = m / 256 / 2 := by omega
    have t := t85 (m % 256) (by omega) ((m / 256) % 2) (by omega)
    rw [e1, e2, t.1]
    rw [byF]
    have : f1 (m % 256) = m % 256 - ((m % 256 / 2) &&& 85) := rfl
    have t2 := t.2
    omega
theorem st2 : ∀ (n m : Nat), (m &&& mk 51 n) + ((m / 4) &&& mk 51 n) = byF f2 n m := by
  intro n
  induction n with
  | zero => intro m; show (m &&& 0) + ((m / 4) &&& 0) = 0; rw [Nat.and_zero, Nat.and_zero]
  | succ n ih =>
    intro m
    have ih' := ih (m / 256)
    rw [land_split m, land_split (m / 4), mk_mod 51 n (by decide), mk_div 51 n (by decide)]
    have e1 : m / 4 % 256 = (m % 256) / 4 + 64 * ((m / 256) % 4) := by omega
    have e2 : m / 4 / 256 = m / 256 / 4 := by omega
    rw [e1, e2, t51 (m % 256) (by omega) ((m / 256) % 4) (by omega)]
    rw [byF]
    have : f2 (m % 256) = (m % 256 &&& 51) + ((m % 256 / 4) &&& 51) := rfl
    omega
/-- all half bytes at most 4 -/
def nib : Nat → Nat → Prop
  | 0, m => m = 0
  | n + 1, m => m % 256 % 16 ≤ 4 ∧ m % 256 / 16 ≤ 4 ∧ nib n (m / 256)
theorem nib_low : ∀ (n m : Nat), nib n m → m % 16 ≤ 4
  | 0, m, h => by rw [show m = 0 from h]; decide
  | n + 1, m, h => by have := h.1; omega
theorem t15 : ∀ a, a ≤ 4 → ∀ b, b ≤ 4 → ∀ c, c ≤ 4 → ((a + 16 * b + (b + 16 * c)) &&& 15) = f3 (a + 16 * b) := by decide +kernel
theorem st3 : ∀ (n m : Nat), nib n m → (m + m / 16) &&& mk 15 n = byF f3 n m := by
  intro n
  induction n with
  | zero => intro m h; show (m + m / 16) &&& 0 = 0; rw [Nat.and_zero]
  | succ n ih =>
    intro m h
    obtain ⟨h1, h2, h3⟩ := h
    have ih' := ih (m / 256) h3
    have h4 := nib_low n _ h3
    rw [land_split (m + m / 16), mk_mod 15 n (by decide), mk_div 15 n (by decide)]
    have e1 : (m + m / 16) % 256 = (m % 256 % 16 + 16 * (m % 256 / 16)) + (m % 256 / 16 + 16 * (m / 256 % 16)) := by omega
    have e2 : (m + m / 16) / 256 = m / 256 + m / 256 / 16 := by omega
    rw [e1, e2, t15 _ h1 _ h2 _ h4, ih', byF]
    have : m % 256 % 16 + 16 * (m % 256 / 16) = m % 256 := by omega
    rw [this]
theorem t_nib : ∀ b, b < 256 → f2 (f1 b) % 256 % 16 ≤ 4 ∧ f2 (f1 b) % 256 / 16 ≤ 4 ∧ f2 (f1 b) < 256 ∧ f1 b < 256 ∧ f3 (f2 (f1 b)) = cnt (b.testBit) 8 := by decide +kernel
theorem byF_comp (f g : Nat → Nat) (hg : ∀ b, b < 256 → g b < 256) : ∀ (n m : Nat), byF f n (byF g n m) = byF (fun b => f (g b)) n m
  | 0, _ => rfl
  | n + 1, m => by
    have h := hg (m % 256) (by omega)
    rw [byF, byF, byF, show (g (m % 256) + 256 * byF g n (m / 256)) % 256 = g (m % 256) by omega, show (g (m % 256) + 256 * byF g n (m / 256)) / 256 = byF g n (m / 256) by omega, byF_comp f g hg n]
theorem nib_12 : ∀ (n m : Nat), nib n (byF (fun b => f2 (f1 b)) n m)
  | 0, _ => rfl
  | n + 1, m => by
    have h := t_nib (m % 256) (by omega)
    rw [byF]
    refine ⟨?_, ?_, ?_⟩
    · rw [show (f2 (f1 (m % 256)) + 256 * byF (fun b => f2 (f1 b)) n (m / 256)) % 256 = f2 (f1 (m % 256)) % 256 by omega]; exact h.1
    · rw [show (f2 (f1 (m % 256)) + 256 * byF (fun b => f2 (f1 b)) n (m / 256)) % 256 = f2 (f1 (m % 256)) % 256 by omega]; exact h.2.1
    · have h3 := h.2.2.1
      rw [show (f2 (f1 (m % 256)) + 256 * byF (fun b => f2 (f1 b)) n (m / 256)) / 256 = byF (fun b => f2 (f1 b)) n (m / 256) by omega]; exact nib_12 n _
theorem byF_lt (f : Nat → Nat) (hf : ∀ b, b < 256 → f b < 256) : ∀ (n m : Nat), byF f n m < 256 ^ n
  | 0, _ => by rw [byF]; exact Nat.one_pos
  | n + 1, m => by
    have h1 := hf (m % 256) (by omega)
    have h2 := byF_lt f hf n (m / 256)
    rw [byF, Nat.pow_succ]
    omega
theorem byF_cong {f g : Nat → Nat} (h : ∀ b, b < 256 → f b = g b) : ∀ (n m : Nat), byF f n m = byF g n m
  | 0, _ => rfl
  | n + 1, m => by rw [byF, byF, h _ (by omega), byF_cong h n]
/-- the first three steps: the bytes' counts -/
theorem swar3 (x : Int64) : uNN (qs3 (qs2 (qs1 x))) = byF (fun b => cnt (b.testBit) 8) 8 (uNN x) := by
  have hx := uNN_lt x
  have e64 : (256 : Nat) ^ 8 = 2 ^ 64 := by decide
  have s1 := st1 8 (uNN x) (by rw [e64]; exact hx)
  have k1 : uNN (6148914691236517205 : Int64) = mk 85 8 := by decide +kernel
  have k2 : uNN (3689348814741910323 : Int64) = mk 51 8 := by decide +kernel
  have k3 : uNN (1085102592571150095 : Int64) = mk 15 8 := by decide +kernel
  have a1 : uNN (qs1 x) = byF f1 8 (uNN x) := by
    unfold qs1
    rw [uNN_sub, uNN_and, show (1 : Int32) = nI 1 from rfl, uNN_ushr x (by decide), k1, Nat.pow_one, ← s1.1]
    have := s1.2
    omega
  have h12 : ∀ b, b < 256 → f2 (f1 b) < 256 := fun b hb => (t_nib b hb).2.2.1
  have h1 : ∀ b, b < 256 → f1 b < 256 := fun b hb => (t_nib b hb).2.2.2.1
  have a2 : uNN (qs2 (qs1 x)) = byF (fun b => f2 (f1 b)) 8 (uNN x) := by
    unfold qs2
    rw [uNN_add, uNN_and, uNN_and, show (2 : Int32) = nI 2 from rfl, uNN_ushr _ (by decide), k2, show (2 : Nat) ^ 2 = 4 from rfl, st2, a1, byF_comp f2 f1 h1]
    exact Nat.mod_eq_of_lt (by rw [← e64]; exact byF_lt _ h12 8 _)
  have hn := nib_12 8 (uNN x)
  unfold qs3
  have hb := byF_lt _ h12 8 (uNN x)
  rw [uNN_and, uNN_add, show (4 : Int32) = nI 4 from rfl, uNN_ushr _ (by decide), k3, a2, show (2 : Nat) ^ 4 = 16 from rfl]
  have hsmall : byF (fun b => f2 (f1 b)) 8 (uNN x) + byF (fun b => f2 (f1 b)) 8 (uNN x) / 16 < 2 ^ 64 := by
    have h8 : byF (fun b => f2 (f1 b)) 8 (uNN x) < 80 * 256 ^ 7 := by
      have h7 := byF_lt _ h12 7 (uNN x / 256)
      have top : ∀ (n m : Nat), nib n m → m ≤ 68 * mk 1 n := by
        intro n
        induction n with
        | zero => intro m h; rw [show m = 0 from h]; exact Nat.zero_le _
        | succ n ih =>
          intro m h
          obtain ⟨g1, g2, g3⟩ := h
          have := ih _ g3
          rw [mk]
          omega
      have := top 8 _ hn
      have e : mk 1 8 = 72340172838076673 := by decide +kernel
      have e7 : (256 : Nat) ^ 7 = 72057594037927936 := by decide
      rw [e] at this
      rw [e7]
      omega
    have e7 : (256 : Nat) ^ 7 = 72057594037927936 := by decide
    rw [e7] at h8
    omega
  rw [Nat.mod_eq_of_lt hsmall, st3 8 _ hn, byF_comp f3 (fun b => f2 (f1 b)) h12]
  exact byF_cong (fun b hb => (t_nib b hb).2.2.2.2) 8 _
theorem sum8 {p0 p1 p2 p3 p4 p5 p6 p7 m : Nat} (l0 : p0 ≤ 8) (l1 : p1 ≤ 8) (l2 : p2 ≤ 8) (l3 : p3 ≤ 8) (l4 : p4 ≤ 8) (l5 : p5 ≤ 8) (l6 : p6 ≤ 8) (l7 : p7 ≤ 8) (h : m = p0 + 256 * (p1 + 256 * (p2 + 256 * (p3 + 256 * (p4 + 256 * (p5 + 256 * (p6 + 256 * (p7 + 256 * 0)))))))) :
    (m + m / 256 + (m + m / 256) / 65536 + (m + m / 256 + (m + m / 256) / 65536) / 4294967296) % 128 = p0 + (p1 + (p2 + (p3 + (p4 + (p5 + (p6 + (p7 + 0))))))) ∧
    (m + m / 256 < 2 ^ 64 ∧ m + m / 256 + (m + m / 256) / 65536 < 2 ^ 64 ∧ m + m / 256 + (m + m / 256) / 65536 + (m + m / 256 + (m + m / 256) / 65536) / 4294967296 < 2 ^ 64) := by
  obtain ⟨r7, h7⟩ : ∃ r, r = p7 + 256 * 0 := ⟨_, rfl⟩
  rw [← h7] at h
  obtain ⟨r6, h6⟩ : ∃ r, r = p6 + 256 * r7 := ⟨_, rfl⟩
  rw [← h6] at h
  obtain ⟨r5, h5⟩ : ∃ r, r = p5 + 256 * r6 := ⟨_, rfl⟩
  rw [← h5] at h
  obtain ⟨r4, h4⟩ : ∃ r, r = p4 + 256 * r5 := ⟨_, rfl⟩
  rw [← h4] at h
  obtain ⟨r3, h3⟩ : ∃ r, r = p3 + 256 * r4 := ⟨_, rfl⟩
  rw [← h3] at h
  obtain ⟨r2, h2⟩ : ∃ r, r = p2 + 256 * r3 := ⟨_, rfl⟩
  rw [← h2] at h
  obtain ⟨r1, h1⟩ : ∃ r, r = p1 + 256 * r2 := ⟨_, rfl⟩
  rw [← h1] at h
  have b7 : r7 ≤ 8 := by clear h1 h2 h3 h4 h5 h6 h; omega
  have b6 : r6 ≤ 2056 := by clear h1 h2 h3 h4 h5 h; omega
  have b5 : r5 ≤ 526344 := by clear h1 h2 h3 h4 h; omega
  have b4 : r4 ≤ 134744072 := by clear h1 h2 h3 h; omega
  have b3 : r3 ≤ 34494482440 := by clear h1 h2 h; omega
  have b2 : r2 ≤ 8830587504648 := by clear h1 h; omega
  have b1 : r1 ≤ 2260630401189896 := by clear h; omega
  have b0 : m ≤ 578721382704613384 := by omega
  have e1 : m / 256 = r1 := by clear h1 h2 h3 h4 h5 h6 h7; omega
  have m1 : m = (p0 + 256 * p1) + 65536 * r2 := by clear h2 h3 h4 h5 h6 h7; omega
  have m2 : r1 = (p1 + 256 * p2) + 65536 * r3 := by clear h h3 h4 h5 h6 h7; omega
  have e2 : (m + r1) / 65536 = r2 + r3 := by
    rw [m1, m2]
    clear m1 m2 h h1 h2 h3 h4 h5 h6 h7 e1 b0 b1
    omega
  have n0 : m = (p0 + 256 * p1 + 65536 * p2 + 16777216 * p3) + 4294967296 * r4 := by clear h1 h4 h5 h6 h7 m2; omega
  have n1 : r1 = (p1 + 256 * p2 + 65536 * p3 + 16777216 * p4) + 4294967296 * r5 := by clear h h5 h6 h7 m1 m2 n0; omega
  have n2 : r2 = (p2 + 256 * p3 + 65536 * p4 + 16777216 * p5) + 4294967296 * r6 := by clear h h1 h6 h7 m1 m2 n0 n1; omega
  have n3 : r3 = (p3 + 256 * p4 + 65536 * p5 + 16777216 * p6) + 4294967296 * r7 := by clear h h1 h2 h7 m1 m2 n0 n1 n2; omega
  have e3 : (m + r1 + (r2 + r3)) / 4294967296 = r4 + r5 + (r6 + r7) := by
    rw [n0, n1, n2, n3]
    clear n0 n1 n2 n3 m1 m2 h h1 h2 h3 h4 h5 h6 h7 e1 e2 b0 b1 b2 b3
    omega
  rw [e1, e2, e3]
  refine ⟨?_, ?_, ?_, ?_⟩
  · clear m1 m2 n0 n1 n2 n3 e1 e2 e3 b0 b1 b2 b3 b4 b5 b6 b7
    omega
  · omega
  · omega
  · omega
