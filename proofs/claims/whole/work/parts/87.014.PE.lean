/-! the county on both sides -/
def CV (n : Nat) (T : Nat → Nat → Bool) (S : Nat → Nat → Int) (D SP : Nat → Int) (ap fi bk : Int) : Prop := Cty n T S ∧ Bd D 0 99 ∧ Z9 D ∧ Bd SP 0 9 ∧ Z9 SP ∧ (1 ≤ ap ∧ ap ≤ 9) ∧ (0 ≤ fi ∧ fi ≤ 9) ∧ (1 ≤ bk ∧ bk ≤ 9)
def ZM (s : wM) : Prop := ∀ j, 9 ≤ j → s.1 184 j = iI 0 ∧ s.1 187 j = iI 0
def CW (s : wM) (n : Nat) (T : Nat → Nat → Bool) (S : Nat → Nat → Int) (D SP : Nat → Int) (ap fi bk : Int) : Prop := LW s n T S ∧ Rw s 8 D ∧ Rw s 9 SP ∧ s.1 11 0 = iI ap ∧ s.1 11 1 = iI fi ∧ s.1 11 2 = iI bk ∧ ZW s
def CM (s : wM) (n : Nat) (T : Nat → Nat → Bool) (S : Nat → Nat → Int) (D SP : Nat → Int) (ap fi bk : Int) : Prop := LM s n T S ∧ Rw s 163 D ∧ Rw s 164 SP ∧ s.1 168 0 = iI ap ∧ s.1 168 1 = iI fi ∧ s.1 168 2 = iI bk ∧ ZM s
/-- fines paid, weeks gone -/
def PdW (s : wM) (n : Nat) (G : Nat → Int32) (w : Int32) : Prop := s.1 10 = G ∧ s.1 7 5 = w ∧ ∀ j, n ≤ j → G j = iI 0
def PdM (s : wM) (n : Nat) (G : Nat → Int32) (w : Int32) : Prop := s.1 167 = G ∧ s.1 161 10 = w
abbrev PI : Type := (Nat → Int) × (Nat → Int32) × Int32
def PIok (n : Nat) (x : PI) : Prop := Bd x.1 0 99 ∧ ∀ j, n ≤ j → x.2.1 j = iI 0
/-- what a snapshot holds of weeks -/
def SnW (s : wM) (k : Nat) (x : PI) : Prop := (∀ f, f < 9 → s.1 (k + 1) f = iI (x.1 f)) ∧ (∀ f, f < 9 → s.1 (k + 3) f = x.2.1 f) ∧ s.1 k 4 = x.2.2
def SnM (s : wM) (i : Nat) (x : PI) : Prop := (∀ f, f < 9 → s.1 174 (19 * i + f) = iI (x.1 f)) ∧ (∀ f, f < 9 → s.1 174 (19 * i + 9 + f) = x.2.1 f) ∧ s.1 174 (19 * i + 18) = x.2.2
def PaW (s : wM) (nt : Nat) (l : List PI) : Prop := nt < 21 ∧ s.1 34 0 = iI (l.length : Int) ∧ s.1 34 2 = iI (nt : Int) ∧ ∀ i (h : i < l.length), SnW s (36 + 5 * ((nt + 21 - l.length + i) % 21)) l[i]
def PaM (s : wM) (l : List PI) : Prop := s.1 161 20 = iI (l.length : Int) ∧ ∀ i (h : i < l.length), SnM s i l[i]
def PaV (n : Nat) (l : List PI) : Prop := l.length ≤ 20 ∧ ∀ x, x ∈ l → PIok n x
/-- kept: none, or farms, what weeks change, springs, the law -/
abbrev KI : Type := Option (Nat × PI × (Nat → Int) × Int × Int × Int)
def KpW (s : wM) (i : Nat) : KI → Prop
  | none => s.1 (146 + 5 * i) 5 = iI (-1)
  | some (m, x, SP, ap, fi, bk) => s.1 (146 + 5 * i) 5 = iI (m : Int) ∧ SnW s (146 + 5 * i) x ∧ (∀ f, f < 9 → s.1 (146 + 5 * i + 2) f = iI (SP f)) ∧ s.1 (146 + 5 * i + 4) 0 = iI ap ∧ s.1 (146 + 5 * i + 4) 1 = iI fi ∧ s.1 (146 + 5 * i + 4) 2 = iI bk
def KpM (s : wM) (i : Nat) : KI → Prop
  | none => s.1 194 i = iI 0
  | some (m, x, SP, ap, fi, bk) => s.1 194 i = iI 1 ∧ s.1 195 (32 * i + 31) = iI (m : Int) ∧ (∀ f, f < 9 → s.1 195 (32 * i + f) = iI (x.1 f) ∧ s.1 195 (32 * i + 9 + f) = iI (SP f) ∧ s.1 195 (32 * i + 18 + f) = x.2.1 f) ∧ s.1 195 (32 * i + 27) = iI ap ∧ s.1 195 (32 * i + 28) = iI fi ∧ s.1 195 (32 * i + 29) = iI bk ∧ s.1 195 (32 * i + 30) = x.2.2
def KpV : KI → Prop
  | none => True
  | some (m, x, SP, ap, fi, bk) => m ≤ 9 ∧ PIok m x ∧ Bd SP 0 9 ∧ (1 ≤ ap ∧ ap ≤ 9) ∧ (0 ≤ fi ∧ fi ≤ 9) ∧ (1 ≤ bk ∧ bk ≤ 9)
def TxW (s : wM) (l : List Nat) : Prop := s.1 1 1 = iI (l.length : Int) ∧ ∀ i (h : i < l.length), s.1 2 i = iI (l[i] : Int)
def TxM (s : wM) (l : List Nat) : Prop := s.1 161 12 = iI (l.length : Int) ∧ ∀ i (h : i < l.length), s.1 169 i = iI (l[i] : Int)
def TxV (l : List Nat) : Prop := l.length ≤ 80 ∧ ∀ c, c ∈ l → c < 256
def SeW (s : wM) (l : List (Nat × Nat)) : Prop := s.1 142 0 = iI (l.length : Int) ∧ ∀ i (h : i < l.length), s.1 143 i = iI (l[i].1 : Int) ∧ s.1 144 i = iI (l[i].2 : Int)
def SeM (s : wM) (l : List (Nat × Nat)) : Prop := s.1 161 43 = iI (l.length : Int) ∧ ∀ i (h : i < l.length), s.1 191 i = iI (l[i].1 : Int) ∧ s.1 192 i = iI (l[i].2 : Int)
def SeV (l : List (Nat × Nat)) : Prop := l.length ≤ 10 ∧ ∀ p, p ∈ l → 1 ≤ p.1 ∧ p.1 ≤ 100 ∧ p.2 ≤ 36
/-- all that the program keeps, all that the model keeps, rows aside -/
def HW (s : wM) (n : Nat) (T : Nat → Nat → Bool) (S : Nat → Nat → Int) (D SP : Nat → Int) (ap fi bk : Int) (G : Nat → Int32) (w : Int32) (pl : List PI) (kp : Nat → KI) (tx : List Nat) (se : List (Nat × Nat)) : Prop := CW s n T S D SP ap fi bk ∧ PdW s n G w ∧ (∃ nt, PaW s nt pl) ∧ (∀ i, i < 3 → KpW s i (kp i)) ∧ TxW s tx ∧ SeW s se
def HM (s : wM) (n : Nat) (T : Nat → Nat → Bool) (S : Nat → Nat → Int) (D SP : Nat → Int) (ap fi bk : Int) (G : Nat → Int32) (w : Int32) (pl : List PI) (kp : Nat → KI) (tx : List Nat) (se : List (Nat × Nat)) : Prop := CM s n T S D SP ap fi bk ∧ PdM s n G w ∧ PaM s pl ∧ (∀ i, i < 3 → KpM s i (kp i)) ∧ TxM s tx ∧ SeM s se
def HV (n : Nat) (T : Nat → Nat → Bool) (S : Nat → Nat → Int) (D SP : Nat → Int) (ap fi bk : Int) (pl : List PI) (kp : Nat → KI) (tx : List Nat) (se : List (Nat × Nat)) : Prop := CV n T S D SP ap fi bk ∧ PaV n pl ∧ (∀ i, i < 3 → KpV (kp i)) ∧ TxV tx ∧ SeV se
def wInv (s : wM) : Prop := ∃ n T S D SP ap fi bk G w pl kp tx se l, HV n T S D SP ap fi bk pl kp tx se ∧ HW s n T S D SP ap fi bk G w pl kp tx se ∧ HM s n T S D SP ap fi bk G w pl kp tx se ∧ RW s l ∧ RM s l ∧ l.length ≤ 10
/-! cells -/
/-- the program's cells -/
def isW (k : Nat) : Bool := decide (k < 161)
/-- cells that the program may use as it likes; the row -/
def KWq : Nat → Nat → Bool := fun k _ => (decide (3 ≤ k) && decide (k ≤ 6)) || (decide (13 ≤ k) && decide (k ≤ 31)) || k == 145
def KWr : Nat → Nat → Bool := fun k j => KWq k j || k == 32 || k == 33
def KMq : Nat → Nat → Bool := fun k j => (k == 161 && (j == 0 || j == 13 || j == 14 || j == 15 || j == 25 || j == 27 || j == 34 || j == 35 || j == 37)) || (decide (170 ≤ k) && decide (k ≤ 173)) || (decide (175 ≤ k) && decide (k ≤ 190)) || k == 193 || k == 196
def KMr : Nat → Nat → Bool := fun k j => KMq k j || (k == 161 && j == 1) || k == 162
