/-! kept sums: weights as digits (place 0 the highest of four, two bits each); how many smallest ones there can be -/
def dgn (t p : Nat) : Nat := t * 256 / 4 ^ (7 - p) % 4
def dgi (t : Nat) (p : Int) : Int := ((dgn t p.toNat : Nat) : Int)
theorem dgn_lt (t p : Nat) : dgn t p < 4 := Nat.mod_lt _ (by decide)
theorem dgi_rng (t : Nat) (p : Int) : 0 ≤ dgi t p ∧ dgi t p ≤ 3 := by
  have := dgn_lt t p.toNat
  unfold dgi
  omega
theorem dgi_nat (t p : Nat) : dgi t (p : Int) = ((dgn t p : Nat) : Int) := by unfold dgi; rw [Int.toNat_natCast]
theorem dgn_hi : ∀ t, t < 256 → ∀ p, p < 8 → 4 ≤ p → dgn t p = 0 := by decide +kernel
theorem dgn_all : ∀ t, t < 256 → t = dgn t 0 * 64 + dgn t 1 * 16 + dgn t 2 * 4 + dgn t 3 := by decide +kernel
theorem dgn_eq {t t' : Nat} (h : t < 256) (h' : t' < 256) (he : ∀ p, p < 4 → dgn t p = dgn t' p) : t = t' := by
  rw [dgn_all t h, dgn_all t' h', he 0 (by decide), he 1 (by decide), he 2 (by decide), he 3 (by decide)]
/-- the sum over a move -/
def gSu (g : Int → Int) (t : Nat) (m : Int) : Int := gsm (fun p => dgi t p * g (m * 8 + p)) 8
/-- a kept sum -/
def Kp (g : Int → Int) (t : Nat) : Prop := 0 < t ∧ ∀ m : Int, 0 ≤ m → m < 8 → gSu g t m = 0
def Sub (t' t : Nat) : Prop := ∀ p, p < 8 → dgn t p = 0 → dgn t' p = 0
def gMin (g : Int → Int) (t : Nat) : Prop := ∀ t', t' < 256 → Kp g t' → Sub t' t → Sub t t'
def gDv (t dv : Nat) : Prop := ∀ p, p < 8 → dgn t p % dv = 0
def Good (g : Int → Int) (t : Nat) : Prop := t < 256 ∧ Kp g t ∧ gMin g t ∧ ¬ gDv t 2 ∧ ¬ gDv t 3
theorem gsm_one {f f' : Int → Int} {p0 : Nat} : ∀ n : Nat, p0 < n → (∀ j : Int, 0 ≤ j → j < (n : Int) → ¬ j = (p0 : Int) → f j = f' j) → gsm f n = gsm f' n + (f (p0 : Int) - f' (p0 : Int)) := by
  intro n
  induction n with
  | zero => intro h; omega
  | succ n ih =>
    intro h he
    show gsm f n + f (n : Int) = gsm f' n + f' (n : Int) + (f (p0 : Int) - f' (p0 : Int))
    by_cases e : p0 = n
    · subst e
      rw [gsm_congr p0 (fun j j1 j2 => he j j1 (by omega) (by omega))]
      omega
    · rw [ih (by omega) (fun j j1 j2 j3 => he j j1 (by omega) j3), he (n : Int) (by omega) (by omega) (by omega)]
      omega
-- the lowest weight made 1
def hk (t : Nat) : Nat := if t % 4 ≠ 0 then 0 else if t / 4 % 4 ≠ 0 then 1 else if t / 16 % 4 ≠ 0 then 2 else 3
def hv (t : Nat) : Nat := t / 4 ^ hk t % 4
def hy (t : Nat) : Nat := t - (hv t - 1) * 4 ^ hk t
theorem hk_4 (t : Nat) : hk t < 4 := by
  unfold hk
  split
  · decide
  · split
    · decide
    · split <;> decide
theorem hy_f1 : ∀ t, t < 256 → 0 < t → hy t < 256 ∧ 0 < hy t ∧ hk (hy t) = hk t ∧ hv (hy t) = 1 ∧ t = hy t + (hv t - 1) * 4 ^ hk t ∧ hv t ≠ 0 := by decide +kernel
theorem hy_f2 : ∀ t, t < 256 → 0 < t → ∀ p, p < 8 → dgn t p = if p = 3 - hk t then hv t else dgn (hy t) p := by decide +kernel
theorem hy_f3 : ∀ k, k < 4 → ∀ p, p < 8 → dgn (4 ^ k) p = if p = 3 - k then 1 else 0 := by decide +kernel
theorem hy_f4 : ∀ k, k < 4 → 4 ^ k < 256 := by decide +kernel
theorem hv_4 (t : Nat) : hv t < 4 := Nat.mod_lt _ (by decide)
/-- two of them that differ in their lowest weight alone are one -/
theorem hy_inj {g : Int → Int} {t t' : Nat} (h : Good g t) (h' : Good g t') (he : hy t = hy t') : t = t' := by
  obtain ⟨a1, a2, a3, a4, a5⟩ := h
  obtain ⟨b1, b2, b3, b4, b5⟩ := h'
  obtain ⟨f1, f2, f3, f4, f5, f6⟩ := hy_f1 t a1 a2.1
  obtain ⟨g1, g2, g3, g4, g5, g6⟩ := hy_f1 t' b1 b2.1
  have ek : hk t = hk t' := by rw [← f3, ← g3, he]
  have d1 := hy_f2 t a1 a2.1
  have d2 := hy_f2 t' b1 b2.1
  by_cases ev : hv t = hv t'
  · rw [f5, g5, he, ek, ev]
  · exfalso
    have k4 := hk_4 t
    -- the gains of that place are all 0
    have gz : ∀ m : Int, 0 ≤ m → m < 8 → g (m * 8 + ((3 - hk t : Nat) : Int)) = 0 := by
      intro m m1 m2
      have s1 := a2.2 m m1 m2
      have s2 := b2.2 m m1 m2
      unfold gSu at s1 s2
      have s3 := gsm_one (f := fun p => dgi t p * g (m * 8 + p)) (f' := fun p => dgi t' p * g (m * 8 + p)) (p0 := 3 - hk t) 8 (by omega) (fun j j1 j2 j3 => by
        obtain ⟨q, rfl⟩ := gb_nat j1
        show dgi t (q : Int) * _ = dgi t' (q : Int) * _
        rw [dgi_nat, dgi_nat, d1 q (by omega), d2 q (by omega), if_neg (by omega), if_neg (by omega), he])
      rw [s1, s2] at s3
      have e1 : dgi t ((3 - hk t : Nat) : Int) = ((hv t : Nat) : Int) := by rw [dgi_nat, d1 (3 - hk t) (by omega), if_pos rfl]
      have e2 : dgi t' ((3 - hk t : Nat) : Int) = ((hv t' : Nat) : Int) := by rw [dgi_nat, d2 (3 - hk t) (by omega), if_pos (by omega)]
      have s4 : (0 : Int) = 0 + (dgi t ((3 - hk t : Nat) : Int) * g (m * 8 + ((3 - hk t : Nat) : Int)) - dgi t' ((3 - hk t : Nat) : Int) * g (m * 8 + ((3 - hk t : Nat) : Int))) := s3
      rw [e1, e2] at s4
      have s5 : (((hv t : Nat) : Int) - ((hv t' : Nat) : Int)) * g (m * 8 + ((3 - hk t : Nat) : Int)) = 0 := by
        rw [Int.sub_mul]
        omega
      rcases Int.mul_eq_zero.mp s5 with z | z
      · omega
      · exact z
    have ku : Kp g (4 ^ hk t) := by
      refine ⟨Nat.pow_pos (by decide), fun m m1 m2 => ?_⟩
      unfold gSu
      have s3 := gsm_one (f := fun p => dgi (4 ^ hk t) p * g (m * 8 + p)) (f' := fun _ => 0) (p0 := 3 - hk t) 8 (by omega) (fun j j1 j2 j3 => by
        obtain ⟨q, rfl⟩ := gb_nat j1
        show dgi (4 ^ hk t) (q : Int) * _ = 0
        rw [dgi_nat, hy_f3 (hk t) k4 q (by omega), if_neg (by omega)]
        exact Int.zero_mul _)
      rw [s3]
      have : gsm (fun _ => (0 : Int)) 8 = 0 := rfl
      rw [this, gz m m1 m2, Int.mul_zero]
      rfl
    have su : ∀ t0, hk t0 = hk t → t0 < 256 → 0 < t0 → hv t0 ≠ 0 → Sub (4 ^ hk t) t0 := by
      intro t0 e0 l0 p0 v0 p hp hz
      rw [hy_f3 (hk t) k4 p hp]
      by_cases e : p = 3 - hk t
      · exfalso
        rw [hy_f2 t0 l0 p0 p hp, e0, if_pos e] at hz
        exact v0 hz
      · rw [if_neg e]
    have one : ∀ t0, hk t0 = hk t → t0 < 256 → 0 < t0 → hv t0 ≠ 0 → gMin g t0 → ¬ gDv t0 2 → ¬ gDv t0 3 → hv t0 = 1 := by
      intro t0 e0 l0 p0 v0 hm n2 n3
      have s1 := hm (4 ^ hk t) (hy_f4 _ k4) ku (su t0 e0 l0 p0 v0)
      have dd : ∀ p, p < 8 → dgn t0 p = if p = 3 - hk t then hv t0 else 0 := by
        intro p hp
        by_cases e : p = 3 - hk t
        · rw [if_pos e, hy_f2 t0 l0 p0 p hp, e0, if_pos e]
        · rw [if_neg e]
          refine s1 p hp ?_
          rw [hy_f3 (hk t) k4 p hp, if_neg e]
      have v4 := hv_4 t0
      rcases (by omega : hv t0 = 1 ∨ hv t0 = 2 ∨ hv t0 = 3) with e | e | e
      · exact e
      · exact absurd (fun p hp => by rw [dd p hp, e]; split <;> rfl) n2
      · exact absurd (fun p hp => by rw [dd p hp, e]; split <;> rfl) n3
    have o1 := one t rfl a1 a2.1 f6 a3 a4 a5
    have o2 := one t' ek.symm b1 b2.1 g6 b3 b4 b5
    exact ev (o1.trans o2.symm)
-- how many
theorem nd_le : ∀ (T l : List Nat), l.Nodup → (∀ x ∈ l, x ∈ T) → l.length ≤ T.length := by
  intro T
  induction T with
  | nil =>
    intro l _ h
    cases l with
    | nil => exact Nat.le_refl 0
    | cons a r => exact absurd (h a List.mem_cons_self) List.not_mem_nil
  | cons a T ih =>
    intro l hn h
    by_cases ha : a ∈ l
    · have h1 := ih (l.erase a) (hn.erase a) (fun x hx => by
        have h2 := hn.mem_erase_iff.mp hx
        rcases List.mem_cons.mp (h x h2.2) with e | e
        · exact absurd e h2.1
        · exact e)
      rw [List.length_erase_of_mem ha] at h1
      show l.length ≤ T.length + 1
      omega
    · have h1 := ih l hn (fun x hx => by
        rcases List.mem_cons.mp (h x hx) with e | e
        · rw [e] at hx; exact absurd hx ha
        · exact e)
      show l.length ≤ T.length + 1
      omega
def fullb (t : Nat) : Bool := dgn t 0 != 0 && (dgn t 1 != 0 && (dgn t 2 != 0 && dgn t 3 != 0))
def T27 : List Nat := (List.range 256).filter (fun y => fullb y && hv y == 1)
def T58 : List Nat := (List.range 256).filter (fun y => !(fullb y) && (hv y == 1 && y != 0))
theorem T27_len : T27.length = 27 := by decide +kernel
theorem T58_len : T58.length = 58 := by decide +kernel
theorem full_y : ∀ t, t < 256 → 0 < t → fullb (hy t) = fullb t := by decide +kernel
theorem full_sub : ∀ t, t < 256 → ∀ p, p < 4 → fullb t = true → dgn t p ≠ 0 := by decide +kernel
theorem full_of {t : Nat} (h : ∀ p, p < 4 → dgn t p ≠ 0) : fullb t = true := by
  unfold fullb
  have h0 := h 0 (by decide)
  have h1 := h 1 (by decide)
  have h2 := h 2 (by decide)
  have h3 := h 3 (by decide)
  simp [h0, h1, h2, h3]
theorem good_58 {g : Int → Int} {F : List Nat} (hs : F.Pairwise (· < ·)) (hg : ∀ t ∈ F, Good g t) : F.length ≤ 58 := by
  have hnd : (F.map hy).Nodup := by
    show (F.map hy).Pairwise (· ≠ ·)
    rw [List.pairwise_map]
    exact hs.imp_of_mem (fun {a b} ha hb hab e => by
      have := hy_inj (hg a ha) (hg b hb) e
      omega)
  have hlen : (F.map hy).length = F.length := List.length_map hy
  by_cases hf : ∃ t ∈ F, fullb t = true
  · obtain ⟨t, t1, t2⟩ := hf
    have hall : ∀ x ∈ F, fullb x = true := by
      intro x hx
      obtain ⟨x1, x2, x3, -, -⟩ := hg x hx
      obtain ⟨g1, g2, g3, -, -⟩ := hg t t1
      have s1 := g3 x x1 x2 (fun p hp hz => by
        by_cases h4 : p < 4
        · exact absurd hz (full_sub t g1 p h4 t2)
        · exact dgn_hi x x1 p hp (by omega))
      exact full_of (fun p hp hz => full_sub t g1 p hp t2 (s1 p (by omega) hz))
    have h1 := nd_le T27 (F.map hy) hnd (fun y hy' => by
      obtain ⟨x, x1, rfl⟩ := List.mem_map.mp hy'
      obtain ⟨a1, a2, -⟩ := hg x x1
      obtain ⟨f1, f2, f3, f4, -⟩ := hy_f1 x a1 a2.1
      refine List.mem_filter.mpr ⟨List.mem_range.mpr f1, ?_⟩
      rw [full_y x a1 a2.1, hall x x1, f4]
      rfl)
    rw [hlen, T27_len] at h1
    omega
  · have h1 := nd_le T58 (F.map hy) hnd (fun y hy' => by
      obtain ⟨x, x1, rfl⟩ := List.mem_map.mp hy'
      obtain ⟨a1, a2, -⟩ := hg x x1
      obtain ⟨f1, f2, f3, f4, -⟩ := hy_f1 x a1 a2.1
      have hx : fullb x = false := by
        cases e : fullb x with
        | true => exact absurd ⟨x, x1, e⟩ hf
        | false => rfl
      refine List.mem_filter.mpr ⟨List.mem_range.mpr f1, ?_⟩
      rw [full_y x a1 a2.1, hx, f4]
      have : (hy x != 0) = true := by
        have : hy x ≠ 0 := by omega
        simp [this]
      rw [this]
      rfl)
    rw [hlen, T58_len] at h1
    exact h1
