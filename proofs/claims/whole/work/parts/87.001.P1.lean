/-! numbers: every Int32 is iI of an Int -/
theorem iI_toInt {a : Int} (h : -2147483648 ≤ a) (h' : a ≤ 2147483647) : (iI a).toInt = a := by
  unfold iI
  rw [Int32.toInt_ofInt]
  exact Int.bmod_eq_of_le (by simp only [Int32.size]; omega) (by simp only [Int32.size]; omega)
theorem iI_of (x : Int32) : iI x.toInt = x := by unfold iI; simp
theorem iI_add (a b : Int) : iI a + iI b = iI (a + b) := by unfold iI; simp
theorem iI_sub (a b : Int) : iI a - iI b = iI (a - b) := by unfold iI; simp
theorem iI_mul (a b : Int) : iI a * iI b = iI (a * b) := by unfold iI; simp
theorem iI_lt {a b : Int} (h1 : -2147483648 ≤ a) (h2 : a ≤ 2147483647) (h3 : -2147483648 ≤ b) (h4 : b ≤ 2147483647) : (iI a < iI b) = (a < b) := by
  rw [Int32.lt_iff_toInt_lt, iI_toInt h1 h2, iI_toInt h3 h4]
theorem iI_le {a b : Int} (h1 : -2147483648 ≤ a) (h2 : a ≤ 2147483647) (h3 : -2147483648 ≤ b) (h4 : b ≤ 2147483647) : (iI a ≤ iI b) = (a ≤ b) := by
  rw [Int32.le_iff_toInt_le, iI_toInt h1 h2, iI_toInt h3 h4]
theorem iI_eq {a b : Int} (h1 : -2147483648 ≤ a) (h2 : a ≤ 2147483647) (h3 : -2147483648 ≤ b) (h4 : b ≤ 2147483647) : (iI a = iI b) = (a = b) := by
  rw [← Int32.toInt_inj, iI_toInt h1 h2, iI_toInt h3 h4]
theorem iI_nat {a : Int} (h1 : -2147483648 ≤ a) (h2 : a ≤ 2147483647) : (iI a).toNatClampNeg = a.toNat := by
  unfold Int32.toNatClampNeg; rw [iI_toInt h1 h2]
theorem iI_natc {a : Nat} (h2 : a ≤ 2147483647) : (iI (a : Int)).toNatClampNeg = a := by
  rw [iI_nat (by omega) (by omega)]; omega
theorem chk_in {ρ : Type} {a : Int} {n : Nat} {k : Option ρ} (h1 : 0 ≤ a) (h2 : a < n) (h3 : a ≤ 2147483647) : chk (iI a) n k = k := by
  unfold chk
  rw [iI_nat (by omega) h3, if_neg]
  rw [show (0 : Int32) = iI 0 from rfl, iI_lt (by omega) h3 (by omega) (by omega)]
  omega
theorem chkD_in {ρ : Type} {a : Int} {k : Option ρ} (h0 : a ≠ 0) (h1 : -2147483648 ≤ a) (h2 : a ≤ 2147483647) : chkD (iI a) k = k := by
  unfold chkD
  rw [if_neg]
  rw [show (0 : Int32) = iI 0 from rfl, iI_eq h1 h2 (by omega) (by omega)]
  exact h0
theorem chkZ_1 {ρ : Type} {k : Option ρ} : chkZ (iI 1) k = k := by unfold chkZ; rw [if_pos (Or.inr rfl)]
theorem chkZ_0 {ρ : Type} {k : Option ρ} : chkZ (iI 0) k = k := by unfold chkZ; rw [if_pos (Or.inl rfl)]
theorem iMax_i {a b : Int} (h1 : -2147483648 ≤ a) (h2 : a ≤ 2147483647) (h3 : -2147483648 ≤ b) (h4 : b ≤ 2147483647) : iMax (iI a) (iI b) = iI (max a b) := by
  unfold iMax; simp only [iI_lt h1 h2 h3 h4]; split <;> congr 1 <;> omega
theorem iMin_i {a b : Int} (h1 : -2147483648 ≤ a) (h2 : a ≤ 2147483647) (h3 : -2147483648 ≤ b) (h4 : b ≤ 2147483647) : iMin (iI a) (iI b) = iI (min a b) := by
  unfold iMin; simp only [iI_lt h3 h4 h1 h2]; split <;> congr 1 <;> omega
theorem iAbs_i {a : Int} (h1 : -2147483648 < a) (h2 : a ≤ 2147483647) : iAbs (iI a) = iI (a.natAbs : Int) := by
  unfold iAbs; simp only [show (0 : Int32) = iI 0 from rfl, iI_le (a := 0) (b := a) (by omega) (by omega) (by omega) h2]
  split
  · congr 1; omega
  · rw [iI_sub]; congr 1; omega
theorem iI_div {a b : Int} (h1 : -2147483648 < a) (h2 : a ≤ 2147483647) (h3 : -2147483648 ≤ b) (h4 : b ≤ 2147483647) : iI a / iI b = iI (a.tdiv b) := by
  rw [← Int32.toInt_inj, Int32.toInt_div, iI_toInt (by omega) h2, iI_toInt h3 h4]
  unfold iI
  rw [Int32.toInt_ofInt]
theorem iI_congr {a b : Int} (h : a = b) : iI a = iI b := by rw [h]
/-! memory -/
theorem rd_ne {s : wM} {k j a : Nat} {v : Int32} (h : a ≠ k) : (wsI s k j v).1 a = s.1 a := by
  funext b; simp [wsI, h]
theorem rd_at {s : wM} {k j : Nat} {v : Int32} : (wsI s k j v).1 k j = v := by simp [wsI]
theorem rd_of {s : wM} {k j i : Nat} {v : Int32} (h : i ≠ j) : (wsI s k j v).1 k i = s.1 k i := by simp [wsI, h]
theorem rd_if {s : wM} {k j i : Nat} {v : Int32} : (wsI s k j v).1 k i = if i = j then v else s.1 k i := by simp [wsI]
theorem rd_L {s : wM} {k j a : Nat} {v : Int64} : (wsL s k j v).1 a = s.1 a := rfl
theorem rd_2 {s : wM} {k j : Nat} {v : Int32} : (wsI s k j v).2 = s.2 := rfl
theorem rd_cne {s : wM} {k1 k2 x y n a : Nat} (h : a ≠ k2) : (wCpy s k1 k2 x y n).1 a = s.1 a := by
  funext b; simp [wCpy, h]
theorem rd_c2 {s : wM} {k1 k2 x y n : Nat} : (wCpy s k1 k2 x y n).2 = s.2 := rfl
theorem rd_fne {s : wM} {k n a : Nat} {v : Int32} (h : a ≠ k) : (wFillI s k n v).1 a = s.1 a := by
  funext b; simp [wFillI, h]
theorem rd_f {s : wM} {k n j : Nat} {v : Int32} : (wFillI s k n v).1 k j = if j < n then v else s.1 k j := by simp [wFillI]
theorem rd_f2 {s : wM} {k n : Nat} {v : Int32} : (wFillI s k n v).2 = s.2 := rfl
theorem rd_c {s : wM} {k1 k2 n j : Nat} : (wCpy s k1 k2 0 0 n).1 k2 j = if j < n then s.1 k1 j else s.1 k2 j := by simp [wCpy]
/-! loops -/
section LOOPS
variable {ρ A B C D E F : Type} {Q : Option ρ → Prop}
theorem wh1_w {f : A → (A → Option ρ) → Option ρ} (P : Nat → A → Prop) (st : ∀ m a, P m a → ∀ k, (∀ m' a', m' < m → P m' a' → Q (k a')) → Q (f a k)) : ∀ n m a, m < n → P m a → Q (wh1 f n a)
  | 0, m, a, h, _ => by omega
  | n + 1, m, a, h, hp => st m a hp _ fun m' a' h1 h2 => wh1_w P st n m' a' (by omega) h2
theorem wh2_w {f : A → B → (A → B → Option ρ) → Option ρ} (P : Nat → A → B → Prop) (st : ∀ m a b, P m a b → ∀ k, (∀ m' a' b', m' < m → P m' a' b' → Q (k a' b')) → Q (f a b k)) : ∀ n m a b, m < n → P m a b → Q (wh2 f n a b)
  | 0, m, a, b, h, _ => by omega
  | n + 1, m, a, b, h, hp => st m a b hp _ fun m' a' b' h1 h2 => wh2_w P st n m' a' b' (by omega) h2
theorem wh3_w {f : A → B → C → (A → B → C → Option ρ) → Option ρ} (P : Nat → A → B → C → Prop) (st : ∀ m a b c, P m a b c → ∀ k, (∀ m' a' b' c', m' < m → P m' a' b' c' → Q (k a' b' c')) → Q (f a b c k)) : ∀ n m a b c, m < n → P m a b c → Q (wh3 f n a b c)
  | 0, m, a, b, c, h, _ => by omega
  | n + 1, m, a, b, c, h, hp => st m a b c hp _ fun m' a' b' c' h1 h2 => wh3_w P st n m' a' b' c' (by omega) h2
theorem wh4_w {f : A → B → C → D → (A → B → C → D → Option ρ) → Option ρ} (P : Nat → A → B → C → D → Prop) (st : ∀ m a b c d, P m a b c d → ∀ k, (∀ m' a' b' c' d', m' < m → P m' a' b' c' d' → Q (k a' b' c' d')) → Q (f a b c d k)) : ∀ n m a b c d, m < n → P m a b c d → Q (wh4 f n a b c d)
  | 0, m, a, b, c, d, h, _ => by omega
  | n + 1, m, a, b, c, d, h, hp => st m a b c d hp _ fun m' a' b' c' d' h1 h2 => wh4_w P st n m' a' b' c' d' (by omega) h2
theorem wh5_w {f : A → B → C → D → E → (A → B → C → D → E → Option ρ) → Option ρ} (P : Nat → A → B → C → D → E → Prop) (st : ∀ m a b c d e, P m a b c d e → ∀ k, (∀ m' a' b' c' d' e', m' < m → P m' a' b' c' d' e' → Q (k a' b' c' d' e')) → Q (f a b c d e k)) : ∀ n m a b c d e, m < n → P m a b c d e → Q (wh5 f n a b c d e)
  | 0, m, a, b, c, d, e, h, _ => by omega
  | n + 1, m, a, b, c, d, e, h, hp => st m a b c d e hp _ fun m' a' b' c' d' e' h1 h2 => wh5_w P st n m' a' b' c' d' e' (by omega) h2
theorem wh6_w {f : A → B → C → D → E → F → (A → B → C → D → E → F → Option ρ) → Option ρ} (P : Nat → A → B → C → D → E → F → Prop) (st : ∀ m a b c d e g, P m a b c d e g → ∀ k, (∀ m' a' b' c' d' e' g', m' < m → P m' a' b' c' d' e' g' → Q (k a' b' c' d' e' g')) → Q (f a b c d e g k)) : ∀ n m a b c d e g, m < n → P m a b c d e g → Q (wh6 f n a b c d e g)
  | 0, m, a, b, c, d, e, g, h, _ => by omega
  | n + 1, m, a, b, c, d, e, g, h, hp => st m a b c d e g hp _ fun m' a' b' c' d' e' g' h1 h2 => wh6_w P st n m' a' b' c' d' e' g' (by omega) h2
/-! the plain for loop i = i0 .. n - 1, whose other state is a function of i -/
theorem for1 {f : Int32 → (Int32 → Option ρ) → Option ρ} {i0 n : Nat} {r : Option ρ} (h : i0 ≤ n) (hn : n < 99999) (st : ∀ i : Nat, i0 ≤ i → i < n → ∀ k, f (iI (i : Int)) k = k (iI ((i : Int) + 1))) (fin : ∀ k, f (iI (n : Int)) k = r) : wh1 f 100000 (iI (i0 : Int)) = r := by
  refine wh1_w (Q := fun x => x = r) (fun m a => ∃ i : Nat, i0 ≤ i ∧ i ≤ n ∧ m = n - i ∧ a = iI (i : Int)) ?_ 100000 (n - i0) _ (by omega) ⟨i0, by omega, h, rfl, rfl⟩
  rintro m a ⟨i, h1, h2, rfl, rfl⟩ k hk
  by_cases h3 : i < n
  · rw [st i h1 h3 k]; exact hk (n - (i + 1)) _ (by omega) ⟨i + 1, by omega, by omega, rfl, by simp⟩
  · have : i = n := by omega
    subst this; exact fin k
theorem for2a {f : A → Int32 → (A → Int32 → Option ρ) → Option ρ} (g : Nat → A) {i0 n : Nat} {r : Option ρ} (h : i0 ≤ n) (hn : n < 99999) (st : ∀ i : Nat, i0 ≤ i → i < n → ∀ k, f (g i) (iI (i : Int)) k = k (g (i + 1)) (iI ((i : Int) + 1))) (fin : ∀ k, f (g n) (iI (n : Int)) k = r) : wh2 f 100000 (g i0) (iI (i0 : Int)) = r := by
  refine wh2_w (Q := fun x => x = r) (fun m a b => ∃ i : Nat, i0 ≤ i ∧ i ≤ n ∧ m = n - i ∧ a = g i ∧ b = iI (i : Int)) ?_ 100000 (n - i0) _ _ (by omega) ⟨i0, by omega, h, rfl, rfl, rfl⟩
  rintro m a b ⟨i, h1, h2, rfl, rfl, rfl⟩ k hk
  by_cases h3 : i < n
  · rw [st i h1 h3 k]; exact hk (n - (i + 1)) _ _ (by omega) ⟨i + 1, by omega, by omega, rfl, rfl, by simp⟩
  · have : i = n := by omega
    subst this; exact fin k
theorem for2b {f : Int32 → A → (Int32 → A → Option ρ) → Option ρ} (g : Nat → A) {i0 n : Nat} {r : Option ρ} (h : i0 ≤ n) (hn : n < 99999) (st : ∀ i : Nat, i0 ≤ i → i < n → ∀ k, f (iI (i : Int)) (g i) k = k (iI ((i : Int) + 1)) (g (i + 1))) (fin : ∀ k, f (iI (n : Int)) (g n) k = r) : wh2 f 100000 (iI (i0 : Int)) (g i0) = r := by
  refine wh2_w (Q := fun x => x = r) (fun m b a => ∃ i : Nat, i0 ≤ i ∧ i ≤ n ∧ m = n - i ∧ a = g i ∧ b = iI (i : Int)) ?_ 100000 (n - i0) _ _ (by omega) ⟨i0, by omega, h, rfl, rfl, rfl⟩
  rintro m b a ⟨i, h1, h2, rfl, rfl, rfl⟩ k hk
  by_cases h3 : i < n
  · rw [st i h1 h3 k]; exact hk (n - (i + 1)) _ _ (by omega) ⟨i + 1, by omega, by omega, rfl, rfl, by simp⟩
  · have : i = n := by omega
    subst this; exact fin k
theorem for3a {f : A → Int32 → B → (A → Int32 → B → Option ρ) → Option ρ} (g : Nat → A) (g2 : Nat → B) {i0 n : Nat} {r : Option ρ} (h : i0 ≤ n) (hn : n < 99999) (st : ∀ i : Nat, i0 ≤ i → i < n → ∀ k, f (g i) (iI (i : Int)) (g2 i) k = k (g (i + 1)) (iI ((i : Int) + 1)) (g2 (i + 1))) (fin : ∀ k, f (g n) (iI (n : Int)) (g2 n) k = r) : wh3 f 100000 (g i0) (iI (i0 : Int)) (g2 i0) = r := by
  refine wh3_w (Q := fun x => x = r) (fun m a b c => ∃ i : Nat, i0 ≤ i ∧ i ≤ n ∧ m = n - i ∧ a = g i ∧ b = iI (i : Int) ∧ c = g2 i) ?_ 100000 (n - i0) _ _ _ (by omega) ⟨i0, by omega, h, rfl, rfl, rfl, rfl⟩
  rintro m a b c ⟨i, h1, h2, rfl, rfl, rfl, rfl⟩ k hk
  by_cases h3 : i < n
  · rw [st i h1 h3 k]; exact hk (n - (i + 1)) _ _ _ (by omega) ⟨i + 1, by omega, by omega, rfl, rfl, by simp, rfl⟩
  · have : i = n := by omega
    subst this; exact fin k
end LOOPS
