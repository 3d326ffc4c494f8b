/-! the pairs that touch, in their order -/
def rowL (T : Nat → Nat → Bool) (a : Nat) : Nat → List (Nat × Nat)
  | 0 => []
  | b + 1 => rowL T a b ++ (if a < b ∧ T a b = true then [(a, b)] else [])
def prL (T : Nat → Nat → Bool) (n : Nat) : Nat → List (Nat × Nat)
  | 0 => []
  | a + 1 => prL T n a ++ rowL T a n
def prs (n : Nat) (T : Nat → Nat → Bool) : List (Nat × Nat) := prL T n n
def lsm (g : Nat → Nat → Int) : List (Nat × Nat) → Int
  | [] => 0
  | p :: l => g p.1 p.2 + lsm g l
theorem lsm_app (g : Nat → Nat → Int) : ∀ l m, lsm g (l ++ m) = lsm g l + lsm g m
  | [], m => by simp [lsm]
  | p :: l, m => by simp only [List.cons_append, lsm, lsm_app g l m]; omega
theorem lsm_row (g : Nat → Nat → Int) (T : Nat → Nat → Bool) (a : Nat) : ∀ b, lsm g (rowL T a b) = sm (fun b => if a < b ∧ T a b = true then g a b else 0) b
  | 0 => rfl
  | b + 1 => by
    simp only [rowL, lsm_app, sm, lsm_row g T a b]
    split <;> simp [lsm]
theorem lsm_prL (g : Nat → Nat → Int) (T : Nat → Nat → Bool) (n : Nat) : ∀ a, lsm g (prL T n a) = sm (fun a => sm (fun b => if a < b ∧ T a b = true then g a b else 0) n) a
  | 0 => rfl
  | a + 1 => by simp only [prL, lsm_app, sm, lsm_prL g T n a, lsm_row]
theorem lsm_take (g : Nat → Nat → Int) (l : List (Nat × Nat)) (i : Nat) (h : i < l.length) : lsm g (l.take (i + 1)) = lsm g (l.take i) + g l[i].1 l[i].2 := by
  rw [List.take_succ_eq_append_getElem h, lsm_app]; simp [lsm]
theorem lsm_congr {g g' : Nat → Nat → Int} : ∀ {l : List (Nat × Nat)}, (∀ p, p ∈ l → g p.1 p.2 = g' p.1 p.2) → lsm g l = lsm g' l
  | [], _ => rfl
  | p :: l, h => by
    unfold lsm
    rw [h p List.mem_cons_self, lsm_congr fun q hq => h q (List.mem_cons_of_mem _ hq)]
theorem mem_row {T : Nat → Nat → Bool} {a : Nat} {p : Nat × Nat} : ∀ {b : Nat}, p ∈ rowL T a b ↔ p.1 = a ∧ a < p.2 ∧ p.2 < b ∧ T a p.2 = true
  | 0 => by simp [rowL]
  | b + 1 => by
    simp only [rowL, List.mem_append, mem_row (b := b)]
    obtain ⟨x, y⟩ := p
    split
    · rename_i h
      simp only [List.mem_singleton, Prod.mk.injEq]
      constructor
      · rintro (h1 | ⟨rfl, rfl⟩)
        · exact ⟨h1.1, h1.2.1, by omega, h1.2.2.2⟩
        · exact ⟨rfl, h.1, by omega, h.2⟩
      · intro h1
        by_cases e : y = b
        · exact Or.inr ⟨h1.1, e⟩
        · exact Or.inl ⟨h1.1, h1.2.1, by omega, h1.2.2.2⟩
    · rename_i h
      simp only [List.not_mem_nil, or_false]
      constructor
      · intro h1; exact ⟨h1.1, h1.2.1, by omega, h1.2.2.2⟩
      · intro h1
        refine ⟨h1.1, h1.2.1, ?_, h1.2.2.2⟩
        by_cases e : y = b
        · subst e; exact absurd ⟨h1.2.1, h1.2.2.2⟩ h
        · omega
theorem mem_prL {T : Nat → Nat → Bool} {n : Nat} {p : Nat × Nat} : ∀ {a : Nat}, p ∈ prL T n a ↔ p.1 < a ∧ p.1 < p.2 ∧ p.2 < n ∧ T p.1 p.2 = true
  | 0 => by simp [prL]
  | a + 1 => by
    simp only [prL, List.mem_append, mem_prL (a := a), mem_row]
    constructor
    · rintro (h | ⟨h1, h2, h3, h4⟩)
      · exact ⟨by omega, h.2⟩
      · rw [h1]; exact ⟨by omega, h2, h3, h4⟩
    · intro h
      by_cases e : p.1 = a
      · right; rw [e] at h; exact ⟨e, h.2.1, h.2.2⟩
      · left; exact ⟨by omega, h.2⟩
theorem mem_prs {T : Nat → Nat → Bool} {n : Nat} {p : Nat × Nat} : p ∈ prs n T ↔ p.1 < p.2 ∧ p.2 < n ∧ T p.1 p.2 = true := by
  unfold prs; rw [mem_prL]; constructor
  · exact fun h => h.2
  · exact fun h => ⟨by omega, h⟩
theorem row_len (T : Nat → Nat → Bool) (a : Nat) : ∀ b, (rowL T a b).length ≤ b - (a + 1)
  | 0 => by simp [rowL]
  | b + 1 => by
    have := row_len T a b
    simp only [rowL, List.length_append]
    split
    · simp; omega
    · simp; omega
theorem row_start (T : Nat → Nat → Bool) (a : Nat) : rowL T a (a + 1) = [] := by
  have := row_len T a (a + 1)
  exact List.length_eq_zero_iff.mp (by omega)
theorem prL_len (T : Nat → Nat → Bool) {n : Nat} (hn : n ≤ 9) : ∀ a, a ≤ 9 → (prL T n a).length + (9 - a) * (8 - a) / 2 ≤ 36
  | 0, _ => by simp [prL]
  | a + 1, h => by
    have h1 := prL_len T hn a (by omega)
    have h2 := row_len T a n
    simp only [prL, List.length_append]
    have : a = 0 ∨ a = 1 ∨ a = 2 ∨ a = 3 ∨ a = 4 ∨ a = 5 ∨ a = 6 ∨ a = 7 ∨ a = 8 := by omega
    rcases this with rfl | rfl | rfl | rfl | rfl | rfl | rfl | rfl | rfl <;> omega
theorem prL_room (T : Nat → Nat → Bool) {n a b : Nat} (hn : n ≤ 9) (hb : b ≤ n) (ha : a < n) : (prL T n a ++ rowL T a b).length + (n - b) ≤ 36 ∨ (prL T n a ++ rowL T a b).length < 36 ∨ b ≤ a + 1 := by
  have h1 := prL_len T hn a (by omega)
  have h2 := row_len T a b
  rw [List.length_append]
  have : a = 0 ∨ a = 1 ∨ a = 2 ∨ a = 3 ∨ a = 4 ∨ a = 5 ∨ a = 6 ∨ a = 7 ∨ a = 8 := by omega
  rcases this with rfl | rfl | rfl | rfl | rfl | rfl | rfl | rfl | rfl <;> omega
theorem prL_lt (T : Nat → Nat → Bool) {n a b : Nat} (hn : n ≤ 9) (hb : b < n) (ha : a < b) : (prL T n a ++ rowL T a b).length < 36 := by
  have h1 := prL_len T hn a (by omega)
  have h2 := row_len T a b
  rw [List.length_append]
  have : a = 0 ∨ a = 1 ∨ a = 2 ∨ a = 3 ∨ a = 4 ∨ a = 5 ∨ a = 6 ∨ a = 7 ∨ a = 8 := by omega
  rcases this with rfl | rfl | rfl | rfl | rfl | rfl | rfl | rfl | rfl <;> omega
theorem prs_len (T : Nat → Nat → Bool) {n : Nat} (hn : n ≤ 9) : (prs n T).length ≤ 36 := by
  have h1 := prL_len T hn n hn
  unfold prs; omega
/-- of any table the half above the diagonal with the half below is the whole -/
theorem sm_tri (k : Nat → Nat → Int) (h0 : ∀ a, k a a = 0) (n : Nat) : sm (fun a => sm (fun b => if a < b then k a b + k b a else 0) n) n = sm (fun a => sm (fun b => k a b) n) n := by
  have h := sm_half (fun a b => k a b + k b a) (fun a b => by omega) (fun a => by rw [h0]; omega) n
  have e : sm (fun a => sm (fun b => k a b + k b a) n) n = sm (fun a => sm (fun b => k a b) n) n + sm (fun a => sm (fun b => k b a) n) n := by
    rw [← sm_add]; congr 1; funext a; rw [← sm_add]
  rw [e, sm_swap (fun a b => k b a) n n] at h
  omega
/-! a week -/
def sep (T : Nat → Nat → Bool) (S : Nat → Nat → Int) (D : Nat → Int) (a b : Nat) : Int := if T a b = true ∧ 0 < S a b ∧ D b < D a then (D a - D b).tdiv (2 * S a b) else 0
def giv (n : Nat) (T : Nat → Nat → Bool) (S : Nat → Nat → Int) (D : Nat → Int) (f : Nat) : Int := sm (fun o => sep T S D f o) n
def nk (n : Nat) (T : Nat → Nat → Bool) (S : Nat → Nat → Int) (D : Nat → Int) (x f o : Nat) : Int := if giv n T S D f ≤ D f then (if x = f then - sep T S D f o else 0) + (if x = o then sep T S D f o else 0) else 0
def net (n : Nat) (T : Nat → Nat → Bool) (S : Nat → Nat → Int) (D : Nat → Int) (x : Nat) : Int := sm (fun f => sm (fun o => nk n T S D x f o) n) n
def rn (rain : Int) (bits x : Nat) : Int := if bits.testBit x then rain else 0
def wat (n : Nat) (T : Nat → Nat → Bool) (S : Nat → Nat → Int) (SP D : Nat → Int) (rain : Int) (bits x : Nat) : Int := D x + (SP x + rn rain bits x + net n T S D x)
def wk (n : Nat) (T : Nat → Nat → Bool) (S : Nat → Nat → Int) (SP D : Nat → Int) (rain : Int) (bits : Nat) : Nat → Int := fun x => if x < n then max 0 (min 99 (wat n T S SP D rain bits x)) else D x
def lst (n : Nat) (T : Nat → Nat → Bool) (S : Nat → Nat → Int) (SP D : Nat → Int) (rain : Int) (bits : Nat) : Int := sm (fun x => max 0 (wat n T S SP D rain bits x - 99)) n
theorem sep_bd {T : Nat → Nat → Bool} {S : Nat → Nat → Int} {D : Nat → Int} (bD : Bd D 0 99) (a b : Nat) : 0 ≤ sep T S D a b ∧ sep T S D a b ≤ 99 := by
  unfold sep
  have h1 := bD a
  have h2 := bD b
  split
  · rename_i h
    obtain ⟨_, h3, h4⟩ := h
    have e : (D a - D b).tdiv (2 * S a b) = (D a - D b) / (2 * S a b) := Int.tdiv_eq_ediv_of_nonneg (by omega)
    rw [e]
    refine ⟨Int.ediv_nonneg (by omega) (by omega), ?_⟩
    exact Int.le_trans (Int.ediv_le_self _ (by omega)) (by omega)
  · omega
theorem sep_0 {n : Nat} {T : Nat → Nat → Bool} {S : Nat → Nat → Int} (hS : Cty n T S) (D : Nat → Int) (a : Nat) : sep T S D a a = 0 := by
  unfold sep; rw [if_neg]; omega
theorem giv_bd {n : Nat} {T : Nat → Nat → Bool} {S : Nat → Nat → Int} {D : Nat → Int} (hn : n ≤ 9) (bD : Bd D 0 99) (f : Nat) (i : Nat) (hi : i ≤ n) : 0 ≤ sm (fun o => sep T S D f o) i ∧ sm (fun o => sep T S D f o) i ≤ 891 := by
  have := sm_bd (f := fun o => sep T S D f o) (lo := 0) (hi := 99) (n := i) (fun j _ => sep_bd bD f j)
  omega
theorem nk_bd {n : Nat} {T : Nat → Nat → Bool} {S : Nat → Nat → Int} {D : Nat → Int} (bD : Bd D 0 99) (x f o : Nat) : -99 ≤ nk n T S D x f o ∧ nk n T S D x f o ≤ 99 := by
  have := sep_bd (T := T) (S := S) bD f o
  unfold nk
  split
  · split <;> split <;> omega
  · omega
theorem net_bd {n : Nat} {T : Nat → Nat → Bool} {S : Nat → Nat → Int} {D : Nat → Int} (hn : n ≤ 9) (bD : Bd D 0 99) (x : Nat) : -10000 ≤ net n T S D x ∧ net n T S D x ≤ 10000 := by
  have := sm_bd (f := fun f => sm (fun o => nk n T S D x f o) n) (lo := -891) (hi := 891) (n := n) (fun j _ => by
    have := sm_bd (f := fun o => nk n T S D x j o) (lo := -99) (hi := 99) (n := n) (fun j2 _ => nk_bd bD x j j2)
    omega)
  unfold net
  omega
theorem wk_bd {n : Nat} {T : Nat → Nat → Bool} {S : Nat → Nat → Int} {SP D : Nat → Int} {rain : Int} {bits : Nat} (bD : Bd D 0 99) : Bd (wk n T S SP D rain bits) 0 99 := by
  intro j
  have := bD j
  unfold wk
  split <;> omega
theorem rn_bd {rain : Int} (h : -9 ≤ rain ∧ rain ≤ 9) (bits x : Nat) : -9 ≤ rn rain bits x ∧ rn rain bits x ≤ 9 := by
  unfold rn; split <;> omega
