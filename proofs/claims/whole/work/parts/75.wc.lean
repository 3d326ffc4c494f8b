/-- the world while it is made: n cells, one behind another from the heap's size at the law's entry -/
def wR (b n : Nat) (E : Nat → va_E) : va_W := (List.range n).map (fun k => (b + k, E k))
theorem wR_at {b n k : Nat} {E : Nat → va_E} (h : k < n) : (wR b n E)[k]? = some (b + k, E k) := by
  simp [wR, h]
theorem wR_len {b n : Nat} {E : Nat → va_E} : (wR b n E).length = n := by simp [wR]
theorem wR_D {b n : Nat} {E : Nat → va_E} {A : Nat → Prop} (hA : ∀ q, b ≤ q → A q) : va_D A (wR b n E) := by
  have key : ∀ (i : Nat) (p : Nat × va_E), (wR b n E)[i]? = some p → p.1 = b + i := by
    intro i p h
    have hi : i < n := by
      have := (List.getElem?_eq_some_iff.mp h).1
      rwa [wR_len] at this
    rw [wR_at hi] at h
    cases h
    rfl
  refine ⟨fun i j p q hi hj hpq => ?_, fun k q hk => ?_⟩
  · have a := key i p hi
    have b := key j q hj
    omega
  · rw [key k q hk]
    exact hA _ (Nat.le_add_right _ _)
theorem wR_set {b n k : Nat} {E : Nat → va_E} {e : va_E} : (wR b n E).set k (b + k, e) = wR b n (va_up E k e) := by
  apply List.ext_getElem?
  intro i
  by_cases hi : i < n
  · by_cases hk : i = k
    · subst hk
      rw [List.getElem?_set_self (by rw [wR_len]; exact hi), wR_at hi]
      simp [va_up]
    · rw [List.getElem?_set_ne (fun q => hk q.symm), wR_at hi, wR_at hi]
      simp [va_up, hk]
  · rw [List.getElem?_eq_none (by rw [List.length_set, wR_len]; omega), List.getElem?_eq_none (by rw [wR_len]; omega)]
theorem wR_push {b n : Nat} {E : Nat → va_E} {e : va_E} : wR b n E ++ [(b + n, e)] = wR b (n + 1) (va_up E n e) := by
  apply List.ext_getElem?
  intro i
  rcases Nat.lt_trichotomy i n with h | h | h
  · rw [List.getElem?_append_left (by rw [wR_len]; exact h), wR_at h, wR_at (by omega)]
    simp [va_up, Nat.ne_of_lt h]
  · subst h
    rw [List.getElem?_append_right (by rw [wR_len]; exact Nat.le_refl _), wR_at (by omega), wR_len]
    simp [va_up]
  · rw [List.getElem?_eq_none (by simp [wR_len]; omega), List.getElem?_eq_none (by rw [wR_len]; omega)]
theorem va_ups {f : Nat → va_E} {k : Nat} {v : va_E} : va_up f k v k = v := by simp [va_up]
theorem va_upn {f : Nat → va_E} {k j : Nat} {v w : va_E} (h : j ≠ k) (e : f j = w) : va_up f k v j = w := by simp [va_up, h, e]
theorem W_sz {p : Program} {l : Launch} {e : Env} {R : Room} {s : State} {m : MethodId} {args : Array Value} {below : List Frame} {meth : Method} {c : Code} {H : Heap} {locs : List Loc} {cells slots : Nat} {Q : State → Prop} {g : JFrame} (k : H.size ≤ s.heap.size + cells → W p l e R s m args below meth c H locs cells slots Q g) : W p l e R s m args below meth c H locs cells slots Q g := fun T hT X => k (by rw [← hT]; exact X.same.2.2.1) T hT X
theorem wR_size {D : va_G} {b n : Nat} {E : Nat → va_E} {H H0 : Heap} {A : Nat → Prop} {locs : List Loc} {ce : Nat} (hP : va_P D vwCl (wR b n E) H) (hS : va_S A H0 H locs) (hz : b + n = H0.size + ce) (hb : b ≤ H0.size) (h : H.size ≤ H0.size + ce) : H.size = b + n := by
  rcases Nat.eq_zero_or_pos n with h0 | h0
  · subst h0
    have := hS.1
    omega
  · have h1 := (hP (n - 1) _ (wR_at (by omega))).lt
    simp only at h1
    omega
def WC (G : wG) (X : wX) (ce sl : Nat) (pc : Nat) (loc : List (Nat × Value)) (st : List Value) (n : Nat) (E : Nat → va_E) : Prop := match X with
  | (p, l, e, R, s0, m, args, below, meth, c, Q, nL, _, _) => ∀ (H : Heap) (locs : List Loc) (ls : Array Slot), va_P G.2.1 vwCl (wR G.2.2.2 n E) H → G.2.2.2 + n = s0.heap.size + ce → va_S (wA G) s0.heap H locs → lv_has ls nL loc → W p l e R s0 m args below meth c H locs ce sl Q (F0 m pc ls st)
def wOC (G : wG) (X : wX) (cc : ByteArray) (own : String) (d mc ms : Nat) : Prop := match X with
  | (p, _, _, R, s, m, _, _, meth, c, _, nL, _, _) => p.tables.exec = Jvm.exec ∧ c.code = cc ∧ c.maxLocals = nL ∧ s.vm.findClass own = some m.cls ∧ wTok s ∧ va_K G.2.1 vwCl (wTy G) s ∧ meth.locks = false ∧ d + 1 ≤ R.frames ∧ 60 * (d + 1) ≤ R.locals ∧ mc ≤ R.cells ∧ ms ≤ R.slots ∧ G.2.2.2 ≤ s.heap.size ∧ va_AO "WellsNotEven$Snapshot" s
def wNm (X : wX) : Prop := match X with
  | (_, _, _, _, _, _, _, _, meth, _, _, _, _, _) => meth.name = "<init>" ∧ meth.sig.returnType = none
def wRc (G : wG) (X : wX) (mc ms : Nat) (Qc : Array Value → State → Outcome → State → Prop) : Prop := match X with
  | (_, _, _, _, s, _, args, below, _, _, Q, _, _, _) => Q = MQ below Qc args s mc ms (wA G)
def wPcC (G : wG) (av : List Value) (n : Nat) (E : Nat → va_E) : Array Value → State → Prop := va_Pc av (fun U => U.heap.size = G.2.2.2 + n ∧ va_P G.2.1 vwCl (wR G.2.2.2 n E) U.heap ∧ va_K G.2.1 vwCl (wTy G) U ∧ wTok U ∧ va_AO "WellsNotEven$Snapshot" U)
def wQc (G : wG) (n : Nat) (E : Nat → va_E) : Array Value → State → Outcome → State → Prop := va_Qv (S := Unit) (fun _ => True) (fun _ t => va_P G.2.1 vwCl (wR G.2.2.2 n E) t.heap) (wA G)
def wRmC (d mc ms : Nat) : Room := { frames := d + 1, cells := mc, slots := ms, locals := 60 * (d + 1) }
def wMetC (l : Launch) (G : wG) (y : MethodName) (cc : ByteArray) (maxL d mc ms : Nat) (av : List Value) (n : Nat) (E : Nat → va_E) (n1 : Nat) (E1 : Nat → va_E) : Prop := Met l y [.code y cc maxL none] (wRmC d mc ms) (wPcC G av n E) (wQc G n1 E1) mc ms (wA G)
theorem wPcC_blind {G : wG} {av : List Value} {n : Nat} {E : Nat → va_E} : FrameBlind (wPcC G av n E) := fun _ U g mk q => ⟨q.1, q.2.1, q.2.2.1, va_K.moved (u := U) (Vm.Alike.refl U.vm) q.2.2.2.1, wTok.same (s := U) rfl q.2.2.2.2.1, va_AO.moved (u := U) (Vm.Alike.refl U.vm) q.2.2.2.2.2⟩
set_option maxHeartbeats 4000000 in
theorem wMetC_of {l : Launch} {G : wG} {y : MethodName} {cc : ByteArray} {maxL d mc ms : Nat} {av : List Value} {n n1 : Nat} {E E1 : Nat → va_E} (hy : plainName y.cls = true) {own : String} (ho : y.cls = own) (hin : y.name = "<init>") (hlen : (lg_sl av).length ≤ maxL)
    (body : ∀ X : wX, wOC G X cc own d mc ms → wNm X → wRc G X mc ms (wQc G n1 E1) → wNl X = maxL → WC G X 0 0 0 (lv_args 0 av) [] n E) : wMetC l G y cc maxL d mc ms av n E n1 E1 := by
  subst ho
  refine Met.ofW (cc := cc) (maxL := maxL) (ret := none) hy rfl ?_
  intro p e s m args below meth c s₁ B hml hv
  obtain ⟨rfl, hsz, hP, hK, hT, hO⟩ := hv
  have hown : s.vm.findClass y.cls = some m.cls := findClass_of_methodNamed B.named
  have h := body (p, l, e, (headSpec [.code y cc maxL none] (wRmC d mc ms)).room, s, m, av.toArray, below, meth, c, MQ below (wQc G n1 E1) av.toArray s mc ms (wA G), maxL, 0, 0) ⟨B.exec, B.bytes, hml, hown, hT, hK, B.notSynchronized, Nat.le_refl _, Nat.le_refl _, Nat.le_refl _, Nat.le_refl _, by omega, hO⟩ ⟨hin ▸ (name_of_methodNamed B.named B.method).1, B.returns⟩ rfl rfl
  rw [lg_entry_eq]
  exact h s.heap [] _ hP (by omega) va_S.rf (lv_entry av hlen)
section WCR
variable {G : wG} {X : wX} {cc : ByteArray} {own : String} {d mc ms : Nat} {ce sl : Nat} {pc : Nat} {loc : List (Nat × Value)} {st : List Value} {n : Nat} {E : Nat → va_E}
theorem wc_iconst {q : Int} {v : Int32} (hX : wOC G X cc own d mc ms) (hd : decode cc pc = .ok (.iconst q, 1)) (hv : Int32.ofInt q = v) {pq : Nat} (hp : pc + 1 = pq) (k : WC G X ce sl pq loc (.int v :: st) n E) : WC G X ce sl pc loc (st) n E := by
  obtain ⟨p, l, e, R, s0, m, args, below, meth, c, Q, nL, cells, slots⟩ := X
  obtain ⟨hx, hb, hml, hown, hT, hK, hlk, hfr, hlo, hmc, hms, hbs, hO⟩ := hX
  intro H locs ls hP hz hS hl
  (try subst hp)
  exact lv_iconst hx hb hd hv (k H locs ls hP hz hS hl)
theorem wc_bipush {q : Int} {v : Int32} (hX : wOC G X cc own d mc ms) (hd : decode cc pc = .ok (.bipush q, 2)) (hv : (Int8.ofInt q).toInt32 = v) {pq : Nat} (hp : pc + 2 = pq) (k : WC G X ce sl pq loc (.int v :: st) n E) : WC G X ce sl pc loc (st) n E := by
  obtain ⟨p, l, e, R, s0, m, args, below, meth, c, Q, nL, cells, slots⟩ := X
  obtain ⟨hx, hb, hml, hown, hT, hK, hlk, hfr, hlo, hmc, hms, hbs, hO⟩ := hX
  intro H locs ls hP hz hS hl
  (try subst hp)
  exact lv_bipush hx hb hd hv (k H locs ls hP hz hS hl)
theorem wc_sipush {q : Int} {v : Int32} (hX : wOC G X cc own d mc ms) (hd : decode cc pc = .ok (.sipush q, 3)) (hv : (Int16.ofInt q).toInt32 = v) {pq : Nat} (hp : pc + 3 = pq) (k : WC G X ce sl pq loc (.int v :: st) n E) : WC G X ce sl pc loc (st) n E := by
  obtain ⟨p, l, e, R, s0, m, args, below, meth, c, Q, nL, cells, slots⟩ := X
  obtain ⟨hx, hb, hml, hown, hT, hK, hlk, hfr, hlo, hmc, hms, hbs, hO⟩ := hX
  intro H locs ls hP hz hS hl
  (try subst hp)
  exact lv_sipush hx hb hd hv (k H locs ls hP hz hS hl)
theorem wc_iload_n (q : Nat) {i : Fin 4} {x : Int32} (hX : wOC G X cc own d mc ms) (hd : decode cc pc = .ok (.iload_n i, 1)) (hq : loc[q]? = some ((i : Nat), .int x)) {pq : Nat} (hp : pc + 1 = pq) (k : WC G X ce sl pq loc (.int x :: st) n E) : WC G X ce sl pc loc (st) n E := by
  obtain ⟨p, l, e, R, s0, m, args, below, meth, c, Q, nL, cells, slots⟩ := X
  obtain ⟨hx, hb, hml, hown, hT, hK, hlk, hfr, hlo, hmc, hms, hbs, hO⟩ := hX
  intro H locs ls hP hz hS hl
  (try subst hp)
  exact lv_iload_n hx hb hd rfl (lv_at hl q hq) (k H locs ls hP hz hS hl)
theorem wc_aload_n (q : Nat) {i : Fin 4} {x : Nat} (hX : wOC G X cc own d mc ms) (hd : decode cc pc = .ok (.aload_n i, 1)) (hq : loc[q]? = some ((i : Nat), .ref x)) {pq : Nat} (hp : pc + 1 = pq) (k : WC G X ce sl pq loc (.ref x :: st) n E) : WC G X ce sl pc loc (st) n E := by
  obtain ⟨p, l, e, R, s0, m, args, below, meth, c, Q, nL, cells, slots⟩ := X
  obtain ⟨hx, hb, hml, hown, hT, hK, hlk, hfr, hlo, hmc, hms, hbs, hO⟩ := hX
  intro H locs ls hP hz hS hl
  (try subst hp)
  exact lv_aload_n hx hb hd rfl (lv_at hl q hq) (k H locs ls hP hz hS hl)
theorem wc_dup {v : Value} (hX : wOC G X cc own d mc ms) (hd : decode cc pc = .ok (.dup, 1)) (hv : v.category = 1) {pq : Nat} (hp : pc + 1 = pq) (k : WC G X ce sl pq loc (v :: v :: st) n E) : WC G X ce sl pc loc (v :: st) n E := by
  obtain ⟨p, l, e, R, s0, m, args, below, meth, c, Q, nL, cells, slots⟩ := X
  obtain ⟨hx, hb, hml, hown, hT, hK, hlk, hfr, hlo, hmc, hms, hbs, hO⟩ := hX
  intro H locs ls hP hz hS hl
  (try subst hp)
  exact lv_dup hx hb hd hv (k H locs ls hP hz hS hl)
theorem wc_istore_n {nL0 : Nat} {i : Fin 4} {x : Int32} {loc' : List (Nat × Value)} (hX : wOC G X cc own d mc ms) (hn0 : wNl X = nL0) (hd : decode cc pc = .ok (.istore_n i, 1)) (hn : (i : Nat) < nL0) (hl' : ((i : Nat), Value.int x) :: loc.filter (fun q => !(q.1 == (i : Nat)) && !(q.1 + 1 == (i : Nat) && q.2.category == 2)) = loc') {pq : Nat} (hp : pc + 1 = pq) (k : WC G X ce sl pq loc' st n E) : WC G X ce sl pc loc (Value.int x :: st) n E := by
  obtain ⟨p, l, e, R, s0, m, args, below, meth, c, Q, nL, cells, slots⟩ := X
  obtain ⟨hx, hb, hml, hown, hT, hK, hlk, hfr, hlo, hmc, hms, hbs, hO⟩ := hX
  intro H locs ls hP hz hS hl
  (try subst hp)
  subst hn0
  exact lv_istore_n hx hb hd rfl hl hn hl' (fun ls' h' => k H locs ls' hP hz hS h')
theorem wc_astore_n {nL0 : Nat} {i : Fin 4} {x : Nat} {loc' : List (Nat × Value)} (hX : wOC G X cc own d mc ms) (hn0 : wNl X = nL0) (hd : decode cc pc = .ok (.astore_n i, 1)) (hn : (i : Nat) < nL0) (hl' : ((i : Nat), Value.ref x) :: loc.filter (fun q => !(q.1 == (i : Nat)) && !(q.1 + 1 == (i : Nat) && q.2.category == 2)) = loc') {pq : Nat} (hp : pc + 1 = pq) (k : WC G X ce sl pq loc' st n E) : WC G X ce sl pc loc (Value.ref x :: st) n E := by
  obtain ⟨p, l, e, R, s0, m, args, below, meth, c, Q, nL, cells, slots⟩ := X
  obtain ⟨hx, hb, hml, hown, hT, hK, hlk, hfr, hlo, hmc, hms, hbs, hO⟩ := hX
  intro H locs ls hP hz hS hl
  (try subst hp)
  subst hn0
  exact lv_astore_n hx hb hd rfl hl hn hl' (fun ls' h' => k H locs ls' hP hz hS h')
theorem wc_iinc {nL0 : Nat} (q : Nat) {i : Nat} {z : Int} {x v : Int32} {loc' : List (Nat × Value)} (hX : wOC G X cc own d mc ms) (hn0 : wNl X = nL0) (hd : decode cc pc = .ok (.iinc i z, 3)) (hq : loc[q]? = some (i, .int x)) (hv : x + Int32.ofInt z = v) (hn : i < nL0) (hl' : (i, Value.int v) :: loc.filter (fun q => !(q.1 == i) && !(q.1 + 1 == i && q.2.category == 2)) = loc') {pq : Nat} (hp : pc + 3 = pq) (k : WC G X ce sl pq loc' st n E) : WC G X ce sl pc loc st n E := by
  obtain ⟨p, l, e, R, s0, m, args, below, meth, c, Q, nL, cells, slots⟩ := X
  obtain ⟨hx, hb, hml, hown, hT, hK, hlk, hfr, hlo, hmc, hms, hbs, hO⟩ := hX
  intro H locs ls hP hz hS hl
  (try subst hp)
  subst hn0
  exact lv_iinc hx hb hd hl hq hv hn hl' (fun ls' h' => k H locs ls' hP hz hS h')
theorem wc_icmp_ge {x y : Int32} {off : Int} {tgt : Nat} (hX : wOC G X cc own d mc ms) (hd : decode cc pc = .ok (.if_icmp .ge off, 3)) (ht : (pc : Int) + off = (tgt : Int)) (k1 : y ≤ x → WC G X ce sl tgt loc st n E) {pq : Nat} (hp : pc + 3 = pq) (k2 : ¬ (y ≤ x) → WC G X ce sl pq loc st n E) : WC G X ce sl pc loc (.int y :: .int x :: st) n E := by
  obtain ⟨p, l, e, R, s0, m, args, below, meth, c, Q, nL, cells, slots⟩ := X
  obtain ⟨hx, hb, hml, hown, hT, hK, hlk, hfr, hlo, hmc, hms, hbs, hO⟩ := hX
  intro H locs ls hP hz hS hl
  (try subst hp)
  exact lv_icmp_ge hx hb hd ht (fun c => k1 c H locs ls hP hz hS hl) (fun c => k2 c H locs ls hP hz hS hl)
theorem wc_goto {off : Int} {tgt : Nat} (hX : wOC G X cc own d mc ms) (hd : decode cc pc = .ok (.goto off, 3)) (ht : (pc : Int) + off = (tgt : Int)) (k : WC G X ce sl tgt loc st n E) : WC G X ce sl pc loc st n E := by
  obtain ⟨p, l, e, R, s0, m, args, below, meth, c, Q, nL, cells, slots⟩ := X
  obtain ⟨hx, hb, hml, hown, hT, hK, hlk, hfr, hlo, hmc, hms, hbs, hO⟩ := hX
  intro H locs ls hP hz hS hl
  (try subst hp)
  exact lv_goto hx hb hd ht (k H locs ls hP hz hS hl)
theorem wc_sub (ks : List Nat) {loc' : List (Nat × Value)} (h : lv_pick loc ks = loc') (k : WC G X ce sl pc loc' st n E) : WC G X ce sl pc loc st n E := by
  obtain ⟨p, l, e, R, s0, m, args, below, meth, c, Q, nL, cells, slots⟩ := X
  intro H locs ls hP hz hS hl
  exact k H locs ls hP hz hS (lv_sub hl ks h)
theorem wc_obj {idx a : Nat} (hX : wOC G X cc own d mc ms) (h1 : Cond.methodLink own idx objectInit ∈ wTs) (h2 : Cond.instanceMethod objectInit ∈ wTs) (h3 : Cond.code objectInit ⟨#[0xb1]⟩ 1 none ∈ wTs) (hcat : (st.map fun v => v.category).sum ≤ 8) (hd : decode cc pc = .ok (.invokespecial idx, 3)) {pq : Nat} (hp : pc + 3 = pq) (k : WC G X ce sl pq loc st n E) : WC G X ce sl pc loc (.ref a :: st) n E := by
  obtain ⟨p, l, e, R, s0, m, args, below, meth, c, Q, nL, cells, slots⟩ := X
  obtain ⟨hx, hb, hml, hown, hT, hK, hlk, hfr, hlo, hmc, hms, hbs, hO⟩ := hX
  intro H locs ls hP hz hS hl
  (try subst hp)
  refine W.objInit (a := a) (rest := st) hx hb hown (hT.1 _ h1 _) (hT.1 _ h2 _) (hT.1 _ h3 _) rfl (by rw [hml]; exact hl.1) rfl hd (by omega) ?_ (k H locs ls hP hz hS hl)
  have := lv_room (m := m) (pc := pc) (ls := ls) (rest := .ref a :: st) hcat
  omega
set_option maxHeartbeats 4000000 in
theorem wc_new {ci idx N : Nat} {C : String} {T : u_T} {ty : Nat → FieldType} {fs : List Value} (hX : wOC G X cc own d mc ms) (hC : wCl ci C T N ty) (h1 : Cond.classLink own idx C ∈ wTs) (h2 : Cond.instantiable C N ∈ wTs) (h3 : Cond.initialized C ∈ wTs) (hfs : ∀ j, j < N → defaultValue (ty j) = vp_V fs j) (hc : ce + 1 ≤ mc) (hs : sl + N ≤ ms) (hd : decode cc pc = .ok (.new idx, 3)) {pq n1 ce1 sl1 : Nat} (hp : pc + 3 = pq) (hn1 : n + 1 = n1) (hce1 : ce + 1 = ce1) (hsl1 : sl + N = sl1) (k : WC G X ce1 sl1 pq loc (.ref (G.2.2.2 + n) :: st) n1 (va_up E n (.inr (ci, fs)))) : WC G X ce sl pc loc st n E := by
  subst hn1 hce1 hsl1
  obtain ⟨p, l, e, R, s0, m, args, below, meth, c, Q, nL, cells, slots⟩ := X
  obtain ⟨hx, hb, hml, hown, hT, hK, hlk, hfr, hlo, hmc, hms, hbs, hO⟩ := hX
  intro H locs ls hP hz hS hl
  (try subst hp)
  have hKn := hK.1 ci _ hC.2.1
  refine W_sz fun hsz => ?_
  have hz0 := hz
  have hz := wR_size hP hS hz hbs hsz
  refine W.newcK hx hb hown (hT.1 _ h1 _) (hT.1 _ h2 _) (hT.1 _ h3 _) rfl hd (by omega) (by omega) hKn.2.1 hz fun H1 kC hkC e1 z1 o1 => ?_
  have hk : ∀ (k : Nat) (x : Nat × va_E), (wR G.2.2.2 n E)[k]? = some x → H1[x.1]? = H[x.1]? := fun k x hx => o1 x.1 (by rw [← hz]; exact (hP k x hx).lt)
  refine k H1 locs ls ?_ (by omega) ⟨Nat.le_trans hS.1 (by omega), fun x h1 h2 => (o1 x (by rw [← hz]; exact Nat.lt_of_lt_of_le h1 hS.1)).trans (hS.2.1 x h1 h2), hS.2.2⟩ hl
  rw [← wR_push]
  refine (hP.kept hk).app (fun k x hx => ?_)
  have hz : k < 1 := (List.getElem?_eq_some_iff.mp hx).1
  rw [show k = 0 by omega] at hx
  cases hx
  exact ⟨_, hC.2.1, (u_born (args := #[]) ty (fun w hw => hT.1 w hw _) hC.1 hKn hkC e1 hC.2.2.1).to hfs⟩
set_option maxHeartbeats 4000000 in
theorem wc_newa {atype : ArrayType} {v : Int32} {N' : Nat} {a0 : vp_A} (ty : FieldType) (t0 : Nat) (hX : wOC G X cc own d mc ms) (h1 : Cond.arrayClass ty ∈ wTs) (hty : newarray.typeOf atype = ty) (ht0 : (wTy G)[t0]? = some (G.2.2.1 ty, ty)) (hpr : refKind ty = false) (ha : ∀ cA : ClassId, vp_cell cA a0 = arrV cA N' (fun _ => defaultValue ty)) (hn : ¬ v < 0) (hN : v.toNatClampNeg = N') (hby : N' * componentBytes ty ≤ 536870912) (hc : ce + 1 ≤ mc) (hs : sl + N' ≤ ms) (hd : decode cc pc = .ok (.newarray atype, 2)) {pq n1 ce1 sl1 : Nat} (hp : pc + 2 = pq) (hn1 : n + 1 = n1) (hce1 : ce + 1 = ce1) (hsl1 : sl + N' = sl1) (k : WC G X ce1 sl1 pq loc (.ref (G.2.2.2 + n) :: st) n1 (va_up E n (.inl (G.2.2.1 ty, a0)))) : WC G X ce sl pc loc (.int v :: st) n E := by
  subst hn1 hce1 hsl1
  obtain ⟨p, l, e, R, s0, m, args, below, meth, c, Q, nL, cells, slots⟩ := X
  obtain ⟨hx, hb, hml, hown, hT, hK, hlk, hfr, hlo, hmc, hms, hbs, hO⟩ := hX
  intro H locs ls hP hz hS hl
  (try subst hp)
  subst hty
  refine W_sz fun hsz => ?_
  have hz0 := hz
  have hz := wR_size hP hS hz hbs hsz
  refine va_newaK hx hb (hT.1 _ h1 _) rfl hd rfl hn hN hby (by omega) (by omega) hz fun H1 cA e1 z1 o1 hAr hNm => ?_
  have hcA : G.2.2.1 (newarray.typeOf atype) = cA := by
    have h2 := (hK.2 t0 _ ht0).2
    have h3 : s0.vm.findClass ("[" ++ (newarray.typeOf atype).toString) = some (G.2.2.1 (newarray.typeOf atype)) := by
      cases atype <;> exact h2
    exact Option.some.inj (h3.symm.trans hNm)
  have hk : ∀ (k : Nat) (x : Nat × va_E), (wR G.2.2.2 n E)[k]? = some x → H1[x.1]? = H[x.1]? := fun k x hx => o1 x.1 (by rw [← hz]; exact (hP k x hx).lt)
  refine k H1 locs ls ?_ (by omega) ⟨Nat.le_trans hS.1 (by omega), fun x h1 h2 => (o1 x (by rw [← hz]; exact Nat.lt_of_lt_of_le h1 hS.1)).trans (hS.2.1 x h1 h2), hS.2.2⟩ hl
  rw [← wR_push]
  refine (hP.kept hk).app (fun k x hx => ?_)
  have hz : k < 1 := (List.getElem?_eq_some_iff.mp hx).1
  rw [show k = 0 by omega] at hx
  cases hx
  show H1[G.2.2.2 + n]? = some (vp_cell _ _)
  rw [ha, hcA]
  exact e1
set_option maxHeartbeats 4000000 in
theorem wc_newq {idx : Nat} {v : Int32} {N' : Nat} (hX : wOC G X cc own d mc ms) (h1 : Cond.classLink own idx "WellsNotEven$Snapshot" ∈ wTs) (hn : ¬ v < 0) (hN : v.toNatClampNeg = N') (hby : N' * 4 ≤ 536870912) (hc : ce + 1 ≤ mc) (hs : sl + N' ≤ ms) (hd : decode cc pc = .ok (.anewarray idx, 3)) {pq n1 ce1 sl1 : Nat} (hp : pc + 3 = pq) (hn1 : n + 1 = n1) (hce1 : ce + 1 = ce1) (hsl1 : sl + N' = sl1) (k : WC G X ce1 sl1 pq loc (.ref (G.2.2.2 + n) :: st) n1 (va_up E n (.inl (G.2.2.1 wSn, N', .inr (.inr (.inr (.inr (fun _ => none)))))))) : WC G X ce sl pc loc (.int v :: st) n E := by
  subst hn1 hce1 hsl1
  obtain ⟨p, l, e, R, s0, m, args, below, meth, c, Q, nL, cells, slots⟩ := X
  obtain ⟨hx, hb, hml, hown, hT, hK, hlk, hfr, hlo, hmc, hms, hbs, hO⟩ := hX
  intro H locs ls hP hz hS hl
  (try subst hp)
  subst hN
  refine W_sz fun hsz => ?_
  have hz0 := hz
  have hz := wR_size hP hS hz hbs hsz
  refine W.anew hx hb hown (hT.1 _ h1 _) (va_AO.use hO) rfl hd rfl hn hby (by omega) (by omega) fun cA kA comp f1 f2 f3 f4 => ?_
  have hcA : G.2.2.1 wSn = cA := by
    obtain ⟨kA', comp', g1, g2, g3, g4⟩ := (hK.2 4 _ rfl).2
    exact Option.some.inj (g4.symm.trans f1)
  generalize hH1 : H.push ({ cls := cA, slots := Array.replicate v.toNatClampNeg .null, vm := .none } : Cell) = H1
  have z1 : H1.size = H.size + 1 := by rw [← hH1, Array.size_push]
  have e1 : H1[H.size]? = some (arrV cA v.toNatClampNeg (fun _ => .null)) := by rw [← hH1, Array.getElem?_push_size, ← arrV_new]
  have o1 : ∀ q : Nat, q < H.size → H1[q]? = H[q]? := fun q hq => by rw [← hH1, Array.getElem?_push, if_neg (Nat.ne_of_lt hq)]
  have hk : ∀ (k : Nat) (x : Nat × va_E), (wR G.2.2.2 n E)[k]? = some x → H1[x.1]? = H[x.1]? := fun k x hx => o1 x.1 ((hP k x hx).lt)
  have hfin := k H1 locs ls ?_ (by omega) ⟨Nat.le_trans hS.1 (by omega), fun x h1 h2 => (o1 x (Nat.lt_of_lt_of_le h1 hS.1)).trans (hS.2.1 x h1 h2), hS.2.2⟩ hl
  · rw [← hz] at hfin
    exact hfin
  · rw [← wR_push]
    refine (hP.kept hk).app (fun k x hx => ?_)
    have hz1 : k < 1 := (List.getElem?_eq_some_iff.mp hx).1
    rw [show k = 0 by omega] at hx
    cases hx
    show H1[G.2.2.2 + n]? = some (vp_cell _ _)
    rw [vp_cell_q, ← hz, hcA]
    exact e1
set_option maxHeartbeats 4000000 in
theorem wc_putF {ci idx j N k0 : Nat} {C : String} {T : u_T} {ty : Nat → FieldType} {fs fs' : List Value} {v : Value} (hX : wOC G X cc own d mc ms) (hNm : wNm X) (hC : wCl ci C T N ty) (hk0 : k0 < n) (hE : E k0 = .inr (ci, fs)) (hj : j < N) (hw : Cond.fieldLink own idx (T j).1 (T j).2.1 (T j).2.2.1 ∈ wTs) (hfin : (T j).2.2.2 = true) (hdecl : (T j).1 = own) (hn : narrow (ty j) v = v) (hft : fits (ty j) v = true) (hjl : j < fs.length) (hd : decode cc pc = .ok (.putfield idx, 3)) {pq : Nat} (hp : pc + 3 = pq) (hfs' : fs.set j v = fs') (k : WC G X ce sl pq loc st n (va_up E k0 (.inr (ci, fs')))) : WC G X ce sl pc loc (v :: .ref (G.2.2.2 + k0) :: st) n E := by
  obtain ⟨p, l, e, R, s0, m, args, below, meth, c, Q, nL, cells, slots⟩ := X
  obtain ⟨hx, hb, hml, hown, hT, hK, hlk, hfr, hlo, hmc, hms, hbs, hO⟩ := hX
  intro H locs ls hP hz hS hl
  (try subst hp)
  refine va_putF (C := C) (T := T) (N := N) hx hb (fun w hw => hT.1 w hw _) hC.1 ty hC.2.2.1 hC.2.2.2 hown hK hP (wR_D (fun _ h => h)) hS k0 (by rw [wR_at hk0, hE]) hC.2.1 j hj (hT.1 _ hw _) (fun _ h => h) hfin hNm.1 hdecl (hC.2.2.1 j hj) hn hft hjl hd (fun H1 locs1 hP1 _ hS1 => ?_)
  rw [wR_set, hfs'] at hP1
  exact k H1 locs1 ls hP1 hz hS1 hl
set_option maxHeartbeats 4000000 in
theorem wc_putI {ci idx j N k0 : Nat} {C : String} {T : u_T} {ty : Nat → FieldType} {fs fs' : List Value} {v : Value} (hX : wOC G X cc own d mc ms) (hC : wCl ci C T N ty) (hk0 : k0 < n) (hE : E k0 = .inr (ci, fs)) (hj : j < N) (hw : Cond.fieldLink own idx (T j).1 (T j).2.1 (T j).2.2.1 ∈ wTs) (hfin : (T j).2.2.2 = false) (hn : narrow (ty j) v = v) (hft : fits (ty j) v = true) (hjl : j < fs.length) (hd : decode cc pc = .ok (.putfield idx, 3)) {pq : Nat} (hp : pc + 3 = pq) (hfs' : fs.set j v = fs') (k : WC G X ce sl pq loc st n (va_up E k0 (.inr (ci, fs')))) : WC G X ce sl pc loc (v :: .ref (G.2.2.2 + k0) :: st) n E := by
  obtain ⟨p, l, e, R, s0, m, args, below, meth, c, Q, nL, cells, slots⟩ := X
  obtain ⟨hx, hb, hml, hown, hT, hK, hlk, hfr, hlo, hmc, hms, hbs, hO⟩ := hX
  intro H locs ls hP hz hS hl
  (try subst hp)
  refine va_put (C := C) (T := T) (N := N) hx hb (fun w hw => hT.1 w hw _) hC.1 ty hC.2.2.1 hC.2.2.2 hown hK hP (wR_D (fun _ h => h)) hS k0 (by rw [wR_at hk0, hE]) hC.2.1 j hj (hT.1 _ hw _) (fun _ h => h) hfin (hC.2.2.1 j hj) hn hft hjl hd (fun H1 locs1 hP1 _ hS1 => ?_)
  rw [wR_set, hfs'] at hP1
  exact k H1 locs1 ls hP1 hz hS1 hl
theorem wc_get {ci idx j N k0 : Nat} {C : String} {T : u_T} {ty : Nat → FieldType} {fs : List Value} {v : Value} (hX : wOC G X cc own d mc ms) (hC : wCl ci C T N ty) (hk0 : k0 < n) (hE : E k0 = .inr (ci, fs)) (hj : j < N) (hw : Cond.fieldLink own idx (T j).1 (T j).2.1 (T j).2.2.1 ∈ wTs) (hv : fs[j]? = some v) (hd : decode cc pc = .ok (.getfield idx, 3)) {pq : Nat} (hp : pc + 3 = pq) (k : WC G X ce sl pq loc (v :: st) n E) : WC G X ce sl pc loc (.ref (G.2.2.2 + k0) :: st) n E := by
  obtain ⟨p, l, e, R, s0, m, args, below, meth, c, Q, nL, cells, slots⟩ := X
  obtain ⟨hx, hb, hml, hown, hT, hK, hlk, hfr, hlo, hmc, hms, hbs, hO⟩ := hX
  intro H locs ls hP hz hS hl
  (try subst hp)
  exact va_get (C := C) (T := T) (N := N) hx hb (fun w hw => hT.1 w hw _) hC.1 hown hK hP k0 (by rw [wR_at hk0, hE]) hC.2.1 j hj (hT.1 _ hw _) (fun _ h => h) hv hd (k H locs ls hP hz hS hl)
set_option maxHeartbeats 4000000 in
theorem wc_aast {k0 k1 N : Nat} {f : Nat → Option Nat} {i : Int32} {vs : List Value} (hX : wOC G X cc own d mc ms) (hk0 : k0 < n) (hE : E k0 = .inl (G.2.2.1 wSn, N, .inr (.inr (.inr (.inr f))))) (hk1 : k1 < n) (hE1 : E k1 = .inr (8, vs)) (hin : vp_in i N) (hd : decode cc pc = .ok (.aastore, 1)) {pq : Nat} (hp : pc + 1 = pq) (k : WC G X ce sl pq loc st n (va_up E k0 (.inl (G.2.2.1 wSn, N, .inr (.inr (.inr (.inr (va_up f i.toNatClampNeg (some (G.2.2.2 + k1))))))))) ) : WC G X ce sl pc loc (.ref (G.2.2.2 + k1) :: .int i :: .ref (G.2.2.2 + k0) :: st) n E := by
  obtain ⟨p, l, e, R, s0, m, args, below, meth, c, Q, nL, cells, slots⟩ := X
  obtain ⟨hx, hb, hml, hown, hT, hK, hlk, hfr, hlo, hmc, hms, hbs, hO⟩ := hX
  intro H locs ls hP hz hS hl
  (try subst hp)
  refine va_astq (r := (RX8, TX8, 6)) hx hb hK hP (wR_D (fun _ h => h)) hS k0 4 k1 8 (by rw [wR_at hk0, hE]) rfl (by rw [wR_at hk1, hE1]) rfl hin hd (fun H1 locs1 hP1 _ hS1 => ?_)
  rw [wR_set] at hP1
  exact k H1 locs1 ls hP1 hz hS1 hl
theorem wc_iast {k0 N : Nat} {f : Nat → Int32} {i x : Int32} (hX : wOC G X cc own d mc ms) (hk0 : k0 < n) (hE : E k0 = .inl (G.2.2.1 .int, N, .inl f)) (hin : vp_in i N) (hd : decode cc pc = .ok (.iastore, 1)) {pq : Nat} (hp : pc + 1 = pq) (k : WC G X ce sl pq loc st n (va_up E k0 (.inl (G.2.2.1 .int, N, .inl (upd f i.toNatClampNeg x))))) : WC G X ce sl pc loc (.int x :: .int i :: .ref (G.2.2.2 + k0) :: st) n E := by
  obtain ⟨p, l, e, R, s0, m, args, below, meth, c, Q, nL, cells, slots⟩ := X
  obtain ⟨hx, hb, hml, hown, hT, hK, hlk, hfr, hlo, hmc, hms, hbs, hO⟩ := hX
  intro H locs ls hP hz hS hl
  (try subst hp)
  refine va_iast hx hb hK hP (wR_D (fun _ h => h)) hS k0 0 (by rw [wR_at hk0, hE]) rfl hin hd (fun H1 locs1 hP1 _ hS1 => ?_)
  rw [wR_set] at hP1
  exact k H1 locs1 ls hP1 hz hS1 hl
theorem wc_alen {k0 N : Nat} {f : Nat → Int32} (hX : wOC G X cc own d mc ms) (hk0 : k0 < n) (hE : E k0 = .inl (G.2.2.1 .int, N, .inl f)) (hd : decode cc pc = .ok (.arraylength, 1)) {pq : Nat} (hp : pc + 1 = pq) (k : WC G X ce sl pq loc (.int (Int32.ofNat N) :: st) n E) : WC G X ce sl pc loc (.ref (G.2.2.2 + k0) :: st) n E := by
  obtain ⟨p, l, e, R, s0, m, args, below, meth, c, Q, nL, cells, slots⟩ := X
  obtain ⟨hx, hb, hml, hown, hT, hK, hlk, hfr, hlo, hmc, hms, hbs, hO⟩ := hX
  intro H locs ls hP hz hS hl
  (try subst hp)
  exact va_alen hx hb hK hP k0 0 (by rw [wR_at hk0, hE]) (ty := .int) rfl (v := Int32.ofNat N) rfl hd (k H locs ls hP hz hS hl)
theorem wc_vret {n1 : Nat} {E1 : Nat → va_E} (hX : wOC G X cc own d mc ms) (hNm : wNm X) (hQ : wRc G X mc ms (wQc G n1 E1)) (hn : n = n1) (hE : E = E1) (hc : ce ≤ mc) (hs : sl ≤ ms) (hd : decode cc pc = .ok (.return_, 1)) : WC G X ce sl pc loc [] n E := by
  obtain ⟨p, l, e, R, s0, m, args, below, meth, c, Q, nL, cells, slots⟩ := X
  obtain ⟨hx, hb, hml, hown, hT, hK, hlk, hfr, hlo, hmc, hms, hbs, hO⟩ := hX
  intro H locs ls hP hz hS hl
  (try subst hp)
  subst hn hE
  simp only [wRc] at hQ
  subst hQ
  refine W.widen hc hs ?_
  exact W.vret hx hb hNm.2 (fun t ht _ => ⟨⟨(), rfl, trivial, by show va_P _ _ _ t.heap; rw [ht]; exact hP⟩, hS.F ht⟩) hS.2.2 hd hlk
def wMi (own : String) (idx : Nat) (y : MethodName) (bytes : ByteArray) (maxL : Nat) : Prop := (Cond.methodLink own idx y ∈ wTs ∨ ∃ host, Cond.methodLinkNest own idx y host ∈ lw_tbl) ∧ Cond.instanceMethod y ∈ wTs ∧ Cond.initialized y.cls ∈ wTs ∧ Cond.code y bytes maxL none ∈ wTs ∧ y.name = "<init>" ∧ (y.cls ≠ "java/lang/invoke/MethodHandle" ∧ y.cls ≠ "java/lang/invoke/VarHandle" ∧ (parseMethodDescriptor y.desc).map (fun d => d.parameters.length) = some 0)
set_option maxHeartbeats 4000000 in
theorem wc_callI {idx maxL d1 mc1 ms1 n1 k0 : Nat} {y : MethodName} {bytes : ByteArray} {E1 : Nat → va_E} (hX : wOC G X cc own d mc ms) (hM : wMi own idx y bytes maxL) (hC : wMetC X.2.1 G y bytes maxL d1 mc1 ms1 [.ref (G.2.2.2 + k0)] n E n1 E1) (hd1 : d1 < d ∧ maxL ≤ 40) (hn1 : n1 = n + mc1) (hc : ce + mc1 ≤ mc) (hs : sl + ms1 ≤ ms) (hcat : (st.map fun v => v.category).sum ≤ 8) (hd : decode cc pc = .ok (.invokespecial idx, 3)) {pq ce1 sl1 : Nat} (hp : pc + 3 = pq) (hce1 : ce + mc1 = ce1) (hsl1 : sl + ms1 = sl1) (k : WC G X ce1 sl1 pq loc st n1 E1) : WC G X ce sl pc loc (.ref (G.2.2.2 + k0) :: st) n E := by
  subst hce1 hsl1
  obtain ⟨p, l, e, R, s0, m, args, below, meth, c, Q, nL, cells, slots⟩ := X
  obtain ⟨hx, hb, hml, hown, hT, hK, hlk, hfr, hlo, hmc, hms, hbs, hO⟩ := hX
  intro H locs ls hP hz hS hl
  (try subst hp)
  obtain ⟨w1, w2, w3, w4, w5, w6⟩ := hM
  refine W_sz fun hsz => ?_
  have hz1 := wR_size hP hS hz hbs hsz
  have hrun : va_Run p l e R s0 m args below meth c H locs ce sl mc1 ms1 (F0 m pc ls (.ref (G.2.2.2 + k0) :: st)) st (wQc G n1 E1 #[Value.ref (G.2.2.2 + k0)]) (wA G) := by
    rcases w1 with w1 | ⟨host, w1⟩
    · exact va_runI (As := []) (rest := st) (R := R) (cells := ce) (slots := sl) (locs := locs) (below := below) (meth := meth) (e := e) (args := args) ⟨hx, hb, hml, hown, fun w hw => hT.1 w hw _⟩ hC ⟨callB_of 0 (fun w hw => hT.1 w hw _) (w_code w4) rfl rfl rfl (hT.1 _ w3 _) (hT.1 _ w1 _) w6 ⟨by simp only [wRmC]; omega, by simp only [wRmC]; omega⟩, w5, hT.1 _ w2 _⟩ ⟨wPcC_blind, fun U hU hW => ⟨rfl, by rw [hU]; exact hz1, by rw [hU]; exact hP, va_K.moved hW.alike hK, hT.warm hW, va_AO.moved hW.alike hO⟩⟩ (g := F0 m pc ls (.ref (G.2.2.2 + k0) :: st)) rfl rfl hl.1 rfl (lv_room (pc := pc) (ls := ls) (m := m) (rest := .ref (G.2.2.2 + k0) :: st) hcat) hd ⟨by omega, by omega⟩
    · exact va_runIN (As := []) (rest := st) (R := R) (cells := ce) (slots := sl) (locs := locs) (below := below) (meth := meth) (e := e) (args := args) ⟨hx, hb, hml, hown, fun w hw => hT.1 w hw _⟩ hC ⟨va_cnB 0 (fun w hw => hT.1 w hw _) (w_code w4) rfl rfl rfl (hT.2 _ _ _ _ w1) (hT.1 _ w3 _) w6 ⟨by simp only [wRmC]; omega, by simp only [wRmC]; omega⟩, w5, hT.1 _ w2 _⟩ ⟨wPcC_blind, fun U hU hW => ⟨rfl, by rw [hU]; exact hz1, by rw [hU]; exact hP, va_K.moved hW.alike hK, hT.warm hW, va_AO.moved hW.alike hO⟩⟩ (g := F0 m pc ls (.ref (G.2.2.2 + k0) :: st)) rfl rfl hl.1 rfl (lv_room (pc := pc) (ls := ls) (m := m) (rest := .ref (G.2.2.2 + k0) :: st) hcat) hd ⟨by omega, by omega⟩
  refine va_callv hrun hS (fun q _ h => h) (fun q h => h) (fun u t H1 locs1 ht hvm hw hB hz2 hk1 hS1 => ?_)
  exact k H1 locs1 ls (by rw [← ht]; exact hB) (by omega) hS1 hl
end WCR
