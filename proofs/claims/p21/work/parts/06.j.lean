/-! ===== J: a walk at a pc over a world; all that is fixed in one walk is one tuple ===== -/
abbrev Kx : Type := Program × Launch × Env × Room × State × MethodId × Array Value × List Frame × Method × Code × va_G × (Nat → Prop) × Nat × (State → Prop)
abbrev kp (κ : Kx) : Program := κ.1
abbrev kl (κ : Kx) : Launch := κ.2.1
abbrev ke (κ : Kx) : Env := κ.2.2.1
abbrev kR (κ : Kx) : Room := κ.2.2.2.1
abbrev ks (κ : Kx) : State := κ.2.2.2.2.1
abbrev km (κ : Kx) : MethodId := κ.2.2.2.2.2.1
abbrev ka (κ : Kx) : Array Value := κ.2.2.2.2.2.2.1
abbrev kb (κ : Kx) : List Frame := κ.2.2.2.2.2.2.2.1
abbrev kt (κ : Kx) : Method := κ.2.2.2.2.2.2.2.2.1
abbrev kc (κ : Kx) : Code := κ.2.2.2.2.2.2.2.2.2.1
abbrev kD (κ : Kx) : va_G := κ.2.2.2.2.2.2.2.2.2.2.1
abbrev kA (κ : Kx) : Nat → Prop := κ.2.2.2.2.2.2.2.2.2.2.2.1
abbrev kN (κ : Kx) : Nat := κ.2.2.2.2.2.2.2.2.2.2.2.2.1
abbrev kQ (κ : Kx) : State → Prop := κ.2.2.2.2.2.2.2.2.2.2.2.2.2
abbrev kW (κ : Kx) (H : Heap) (locs : List Loc) (n1 n2 : Nat) (g : JFrame) : Prop := W (kp κ) (kl κ) (ke κ) (kR κ) (ks κ) (km κ) (ka κ) (kb κ) (kt κ) (kc κ) H locs n1 n2 (kQ κ) g
def J (κ : Kx) (n1 n2 : Nat) (ws : va_W) (pc : Nat) (lv : List (Nat × Value)) (st : List Value) : Prop :=
  ∀ (H : Heap) (locs : List Loc) (ls : Array Slot), va_P (kD κ) vwCl ws H → va_D (kA κ) ws → va_S (kA κ) (ks κ).heap H locs → lv_has ls (kN κ) lv → kW κ H locs n1 n2 (F0 (km κ) pc ls st)
/-- what the tables of numbers hold -/
def tcW : Nat → Int32 := fun j => match j with
  | 0 => 97
  | 1 => 115
  | 2 => 109
  | 3 => 103
  | _ => 108
def tcK : Nat → Int32 := fun j => match j with
  | 0 => 80
  | 1 => 83
  | _ => 68
def tbW : Nat → Value := fun j => .int (tcW j)
def tbK : Nat → Value := fun j => .int (tcK j)
abbrev nwD : Cond := .methodLinkNest RX3 108 yX4_isWithin "MutantRows"
abbrev nwS : Cond := .methodLinkNest RX4 17 yX2_init "MutantRows"
abbrev nwP : Cond := .methodLinkNest RX4 20 yX1_init "MutantRows"
abbrev nwR : Cond := .methodLinkNest RX4 30 yX3_init "MutantRows"
abbrev nwQ : Cond := .methodLinkNest RX3 11 yX1_init "MutantRows"
abbrev nwK : Cond := .methodLinkNest RX4 37 yX0_init "MutantRows"
/-- what every walk knows beside its world: links to nest mates, the two tables of codes -/
def Ev (tW tK : Nat) (A : Nat → Prop) (U : State) (H : Heap) : Prop :=
  va_Nw nwD U ∧ va_Nw nwS U ∧ va_Nw nwP U ∧ va_Nw nwR U ∧ va_Nw nwQ U ∧ va_Nw nwK U ∧ va_Z RX3 "WAY_CODES" "[I" (.ref tW) A U H ∧ va_T .int tW 5 tbW A U H ∧ va_Z RX3 "KIND_CODES" "[I" (.ref tK) A U H ∧ va_T .int tK 3 tbK A U H ∧ va_AO RX2 U
theorem Ev.warm {tW tK : Nat} {A : Nat → Prop} {s U : State} {H : Heap} (hW : s.WarmedH U.vm) (h : Ev tW tK A s H) : Ev tW tK A U H := by
  obtain ⟨h1, h2, h3, h4, h5, h6, h7, h8, h9, h10, h11⟩ := h
  exact ⟨va_Nw.warmM hW h1, va_Nw.warmM hW h2, va_Nw.warmM hW h3, va_Nw.warmM hW h4, va_Nw.warmM hW h5, va_Nw.warmM hW h6, h7.moved hW.alike, h8.moved hW.alike, h9.moved hW.alike, h10.moved hW.alike, h11.moved hW.alike⟩
theorem Ev.same {tW tK : Nat} {A : Nat → Prop} {s U : State} {H : Heap} (hW : s.vm = U.vm) (h : Ev tW tK A s H) : Ev tW tK A U H := by
  obtain ⟨h1, h2, h3, h4, h5, h6, h7, h8, h9, h10, h11⟩ := h
  have ha : s.vm.Alike U.vm := by rw [hW]; exact Vm.Alike.refl _
  exact ⟨va_Nw.same rfl hW h1, va_Nw.same rfl hW h2, va_Nw.same rfl hW h3, va_Nw.same rfl hW h4, va_Nw.same rfl hW h5, va_Nw.same rfl hW h6, h7.moved ha, h8.moved ha, h9.moved ha, h10.moved ha, h11.moved ha⟩
theorem Ev.kept {tW tK : Nat} {A : Nat → Prop} {U : State} {H H1 : Heap} (h : Ev tW tK A U H) (hq : ∀ a : Nat, a < H.size → ¬ A a → H1[a]? = H[a]?) : Ev tW tK A U H1 := by
  obtain ⟨h1, h2, h3, h4, h5, h6, h7, h8, h9, h10, h11⟩ := h
  exact ⟨h1, h2, h3, h4, h5, h6, h7.kept hq, h8.kept hq, h9.kept hq, h10.kept hq, h11⟩
theorem Ev.narrow {tW tK : Nat} {A B : Nat → Prop} {U : State} {H : Heap} (h : Ev tW tK A U H) (hAB : ∀ q, B q → A q) : Ev tW tK B U H := by
  obtain ⟨h1, h2, h3, h4, h5, h6, h7, h8, h9, h10, h11⟩ := h
  exact ⟨h1, h2, h3, h4, h5, h6, h7.narrow hAB, h8.narrow hAB, h9.narrow hAB, h10.narrow hAB, h11⟩
abbrev tys2 (cI cS : ClassId) : List (ClassId × FieldType) := [(cI, .int), (cS, .object RX2)]
/-- the fixed numbers of a place: tables' ids and the addresses of the two tables of codes -/
abbrev Gx : Type := va_G × ClassId × ClassId × Nat × Nat
def Cx (κ : Kx) (G : Gx) (own : String) (cc : ByteArray) (rm : Room) (nL : Nat) : Prop :=
  (kp κ).tables.exec = Jvm.exec ∧ (kc κ).code = cc ∧ (kc κ).maxLocals = nL ∧ (ks κ).vm.findClass own = some (km κ).cls ∧ (∀ w ∈ gW, w.before (ka κ) (ks κ) = true) ∧ va_K (kD κ) vwCl (tys2 G.2.1 G.2.2.1) (ks κ) ∧ (∀ q, (ks κ).heap.size ≤ q → kA κ q) ∧ kR κ = rm ∧ kN κ = nL ∧ kD κ = G.1 ∧ Ev G.2.2.2.1 G.2.2.2.2 (kA κ) (ks κ) (ks κ).heap
section JR
variable {κ : Kx} {G : Gx} {own : String} {cc : ByteArray} {rm : Room} {nL n1 n2 : Nat} {ws ws' : va_W} {pc : Nat} {lv lv' : List (Nat × Value)} {st : List Value}
theorem Cx.x (C : Cx κ G own cc rm nL) : (kp κ).tables.exec = Jvm.exec := C.1
theorem Cx.b (C : Cx κ G own cc rm nL) : (kc κ).code = cc := C.2.1
theorem Cx.ml (C : Cx κ G own cc rm nL) : (kc κ).maxLocals = nL := C.2.2.1
theorem Cx.ow (C : Cx κ G own cc rm nL) : (ks κ).vm.findClass own = some (km κ).cls := C.2.2.2.1
theorem Cx.ts (C : Cx κ G own cc rm nL) : ∀ w ∈ gW, w.before (ka κ) (ks κ) = true := C.2.2.2.2.1
theorem Cx.K (C : Cx κ G own cc rm nL) : va_K (kD κ) vwCl (tys2 G.2.1 G.2.2.1) (ks κ) := C.2.2.2.2.2.1
theorem Cx.hA (C : Cx κ G own cc rm nL) : ∀ q, (ks κ).heap.size ≤ q → kA κ q := C.2.2.2.2.2.2.1
theorem Cx.R (C : Cx κ G own cc rm nL) : kR κ = rm := C.2.2.2.2.2.2.2.1
theorem Cx.N (C : Cx κ G own cc rm nL) : kN κ = nL := C.2.2.2.2.2.2.2.2.1
theorem Cx.D (C : Cx κ G own cc rm nL) : kD κ = G.1 := C.2.2.2.2.2.2.2.2.2.1
theorem Cx.E (C : Cx κ G own cc rm nL) : Ev G.2.2.2.1 G.2.2.2.2 (kA κ) (ks κ) (ks κ).heap := C.2.2.2.2.2.2.2.2.2.2
theorem J.w0 (h : ws = ws') (k : J κ n1 n2 ws' pc lv st) : J κ n1 n2 ws pc lv st := h ▸ k
theorem J.l0 (ks' : List Nat) (h : lv_pick lv ks' = lv') (k : J κ n1 n2 ws pc lv' st) : J κ n1 n2 ws pc lv st := fun H locs ls hP hD hS hl => k H locs ls hP hD hS (lv_sub hl ks' h)
theorem J.topi {x : Int32} (k : ∀ y : Int32, y = x → J κ n1 n2 ws pc lv (.int y :: st)) : J κ n1 n2 ws pc lv (.int x :: st) := k x rfl
theorem J.topl {x : Int64} (k : ∀ y : Int64, y = x → J κ n1 n2 ws pc lv (.long y :: st)) : J κ n1 n2 ws pc lv (.long x :: st) := k x rfl
-- loads
theorem j_iload_n (q : Nat) (C : Cx κ G own cc rm nL) {k : Fin 4} {x : Int32} (hd : decode cc pc = .ok (.iload_n k, 1)) (hq : pc + 1 = q) (i : Nat) (hl : lv[i]? = some ((k : Nat), .int x)) (K : J κ n1 n2 ws q lv (.int x :: st)) : J κ n1 n2 ws pc lv st := by
  subst hq
  exact fun H locs ls hP hD hS h => lv_iload_n C.x C.b hd rfl (lv_at h i hl) (K H locs ls hP hD hS h)
theorem j_iload (q : Nat) (C : Cx κ G own cc rm nL) {k : Nat} {x : Int32} (hd : decode cc pc = .ok (.iload k, 2)) (hq : pc + 2 = q) (i : Nat) (hl : lv[i]? = some (k, .int x)) (K : J κ n1 n2 ws q lv (.int x :: st)) : J κ n1 n2 ws pc lv st := by
  subst hq
  exact fun H locs ls hP hD hS h => lv_iload C.x C.b hd (lv_at h i hl) (K H locs ls hP hD hS h)
theorem j_lload_n (q : Nat) (C : Cx κ G own cc rm nL) {k : Fin 4} {x : Int64} (hd : decode cc pc = .ok (.lload_n k, 1)) (hq : pc + 1 = q) (i : Nat) (hl : lv[i]? = some ((k : Nat), .long x)) (K : J κ n1 n2 ws q lv (.long x :: st)) : J κ n1 n2 ws pc lv st := by
  subst hq
  exact fun H locs ls hP hD hS h => lv_lload_n C.x C.b hd rfl (lv_at h i hl) (K H locs ls hP hD hS h)
theorem j_lload (q : Nat) (C : Cx κ G own cc rm nL) {k : Nat} {x : Int64} (hd : decode cc pc = .ok (.lload k, 2)) (hq : pc + 2 = q) (i : Nat) (hl : lv[i]? = some (k, .long x)) (K : J κ n1 n2 ws q lv (.long x :: st)) : J κ n1 n2 ws pc lv st := by
  subst hq
  exact fun H locs ls hP hD hS h => lv_lload C.x C.b hd (lv_at h i hl) (K H locs ls hP hD hS h)
theorem j_aload_n (q : Nat) (C : Cx κ G own cc rm nL) {k : Fin 4} {x : Nat} (hd : decode cc pc = .ok (.aload_n k, 1)) (hq : pc + 1 = q) (i : Nat) (hl : lv[i]? = some ((k : Nat), .ref x)) (K : J κ n1 n2 ws q lv (.ref x :: st)) : J κ n1 n2 ws pc lv st := by
  subst hq
  exact fun H locs ls hP hD hS h => lv_aload_n C.x C.b hd rfl (lv_at h i hl) (K H locs ls hP hD hS h)
theorem j_aload (q : Nat) (C : Cx κ G own cc rm nL) {k : Nat} {x : Nat} (hd : decode cc pc = .ok (.aload k, 2)) (hq : pc + 2 = q) (i : Nat) (hl : lv[i]? = some (k, .ref x)) (K : J κ n1 n2 ws q lv (.ref x :: st)) : J κ n1 n2 ws pc lv st := by
  subst hq
  exact fun H locs ls hP hD hS h => lv_aload C.x C.b hd (lv_at h i hl) (K H locs ls hP hD hS h)
-- stores
theorem j_istore_n (q : Nat) (C : Cx κ G own cc rm nL) {k : Fin 4} {x : Int32} (hd : decode cc pc = .ok (.istore_n k, 1)) (hq : pc + 1 = q) (hn : (k : Nat) < nL) (pk : List Nat) (hl : lv_pick (((k : Nat), Value.int x) :: lv.filter (fun q => !(q.1 == (k : Nat)) && !(q.1 + 1 == (k : Nat) && q.2.category == 2))) pk = lv') (K : J κ n1 n2 ws q lv' st) : J κ n1 n2 ws pc lv (.int x :: st) := by
  subst hq
  exact fun H locs ls hP hD hS h => lv_istore_n C.x C.b hd rfl h (by rw [C.N]; exact hn) rfl (fun ls' h' => K H locs ls' hP hD hS (lv_sub h' pk hl))
theorem j_istore (q : Nat) (C : Cx κ G own cc rm nL) {k : Nat} {x : Int32} (hd : decode cc pc = .ok (.istore k, 2)) (hq : pc + 2 = q) (hn : k < nL) (pk : List Nat) (hl : lv_pick ((k, Value.int x) :: lv.filter (fun q => !(q.1 == k) && !(q.1 + 1 == k && q.2.category == 2))) pk = lv') (K : J κ n1 n2 ws q lv' st) : J κ n1 n2 ws pc lv (.int x :: st) := by
  subst hq
  exact fun H locs ls hP hD hS h => lv_istore C.x C.b hd h (by rw [C.N]; exact hn) rfl (fun ls' h' => K H locs ls' hP hD hS (lv_sub h' pk hl))
theorem j_astore_n (q : Nat) (C : Cx κ G own cc rm nL) {k : Fin 4} {x : Nat} (hd : decode cc pc = .ok (.astore_n k, 1)) (hq : pc + 1 = q) (hn : (k : Nat) < nL) (pk : List Nat) (hl : lv_pick (((k : Nat), Value.ref x) :: lv.filter (fun q => !(q.1 == (k : Nat)) && !(q.1 + 1 == (k : Nat) && q.2.category == 2))) pk = lv') (K : J κ n1 n2 ws q lv' st) : J κ n1 n2 ws pc lv (.ref x :: st) := by
  subst hq
  exact fun H locs ls hP hD hS h => lv_astore_n C.x C.b hd rfl h (by rw [C.N]; exact hn) rfl (fun ls' h' => K H locs ls' hP hD hS (lv_sub h' pk hl))
theorem j_astore (q : Nat) (C : Cx κ G own cc rm nL) {k : Nat} {x : Nat} (hd : decode cc pc = .ok (.astore k, 2)) (hq : pc + 2 = q) (hn : k < nL) (pk : List Nat) (hl : lv_pick ((k, Value.ref x) :: lv.filter (fun q => !(q.1 == k) && !(q.1 + 1 == k && q.2.category == 2))) pk = lv') (K : J κ n1 n2 ws q lv' st) : J κ n1 n2 ws pc lv (.ref x :: st) := by
  subst hq
  exact fun H locs ls hP hD hS h => lv_astore C.x C.b hd h (by rw [C.N]; exact hn) rfl (fun ls' h' => K H locs ls' hP hD hS (lv_sub h' pk hl))
theorem j_lstore (q : Nat) (C : Cx κ G own cc rm nL) {k : Nat} {x : Int64} (hd : decode cc pc = .ok (.lstore k, 2)) (hq : pc + 2 = q) (hn : k + 1 < nL) (pk : List Nat) (hl : lv_pick ((k, Value.long x) :: lv.filter (fun q => !(q.1 == k) && (!(q.1 == k + 1) && !(q.1 + 1 == k && q.2.category == 2)))) pk = lv') (K : J κ n1 n2 ws q lv' st) : J κ n1 n2 ws pc lv (.long x :: st) := by
  subst hq
  exact fun H locs ls hP hD hS h => lv_lstore C.x C.b hd h (by rw [C.N]; exact hn) rfl (fun ls' h' => K H locs ls' hP hD hS (lv_sub h' pk hl))
theorem j_iinc (q : Nat) (C : Cx κ G own cc rm nL) {k : Nat} {n : Int} {x v : Int32} (hd : decode cc pc = .ok (.iinc k n, 3)) (hq : pc + 3 = q) (i : Nat) (hi : lv[i]? = some (k, .int x)) (hv : x + Int32.ofInt n = v) (hn : k < nL) (pk : List Nat) (hl : lv_pick ((k, Value.int v) :: lv.filter (fun q => !(q.1 == k) && !(q.1 + 1 == k && q.2.category == 2))) pk = lv') (K : J κ n1 n2 ws q lv' st) : J κ n1 n2 ws pc lv st := by
  subst hq
  exact fun H locs ls hP hD hS h => lv_iinc C.x C.b hd h hi hv (by rw [C.N]; exact hn) rfl (fun ls' h' => K H locs ls' hP hD hS (lv_sub h' pk hl))
-- constants
theorem j_iconst (q : Nat) (C : Cx κ G own cc rm nL) {n : Int} {v : Int32} (hd : decode cc pc = .ok (.iconst n, 1)) (hq : pc + 1 = q) (hv : Int32.ofInt n = v) (K : J κ n1 n2 ws q lv (.int v :: st)) : J κ n1 n2 ws pc lv st := by
  subst hq
  exact fun H locs ls hP hD hS h => lv_iconst C.x C.b hd hv (K H locs ls hP hD hS h)
theorem j_bipush (q : Nat) (C : Cx κ G own cc rm nL) {n : Int} {v : Int32} (hd : decode cc pc = .ok (.bipush n, 2)) (hq : pc + 2 = q) (hv : (Int8.ofInt n).toInt32 = v) (K : J κ n1 n2 ws q lv (.int v :: st)) : J κ n1 n2 ws pc lv st := by
  subst hq
  exact fun H locs ls hP hD hS h => lv_bipush C.x C.b hd hv (K H locs ls hP hD hS h)
theorem j_sipush (q : Nat) (C : Cx κ G own cc rm nL) {n : Int} {v : Int32} (hd : decode cc pc = .ok (.sipush n, 3)) (hq : pc + 3 = q) (hv : (Int16.ofInt n).toInt32 = v) (K : J κ n1 n2 ws q lv (.int v :: st)) : J κ n1 n2 ws pc lv st := by
  subst hq
  exact fun H locs ls hP hD hS h => lv_sipush C.x C.b hd hv (K H locs ls hP hD hS h)
theorem j_ldc (q : Nat) (C : Cx κ G own cc rm nL) {idx : Nat} {v : Int32} (hd : decode cc pc = .ok (.ldc idx, 2)) (hq : pc + 2 = q) (hw : Cond.constant own idx v ∈ gW) (K : J κ n1 n2 ws q lv (.int v :: st)) : J κ n1 n2 ws pc lv st := by
  subst hq
  exact fun H locs ls hP hD hS h => lv_ldc C.x C.b C.ow (C.ts _ hw) hd (K H locs ls hP hD hS h)
theorem j_ldc_w (q : Nat) (C : Cx κ G own cc rm nL) {idx : Nat} {v : Int32} (hd : decode cc pc = .ok (.ldc_w idx, 3)) (hq : pc + 3 = q) (hw : Cond.constant own idx v ∈ gW) (K : J κ n1 n2 ws q lv (.int v :: st)) : J κ n1 n2 ws pc lv st := by
  subst hq
  exact fun H locs ls hP hD hS h => lv_ldcw C.x C.b C.ow (C.ts _ hw) hd (K H locs ls hP hD hS h)
theorem j_ldc2_w (q : Nat) (C : Cx κ G own cc rm nL) {idx : Nat} {v : Int64} (hd : decode cc pc = .ok (.ldc2_w idx, 3)) (hq : pc + 3 = q) (hw : Cond.constantLong own idx v ∈ gW) (K : J κ n1 n2 ws q lv (.long v :: st)) : J κ n1 n2 ws pc lv st := by
  subst hq
  exact fun H locs ls hP hD hS h => lv_ldc2 C.x C.b C.ow (C.ts _ hw) hd (K H locs ls hP hD hS h)
theorem j_lconst (q : Nat) (C : Cx κ G own cc rm nL) {n : Fin 2} {v : Int64} (hd : decode cc pc = .ok (.lconst n, 1)) (hq : pc + 1 = q) (hv : Int64.ofNat (n : Nat) = v) (K : J κ n1 n2 ws q lv (.long v :: st)) : J κ n1 n2 ws pc lv st := by
  subst hq
  exact fun H locs ls hP hD hS h => lv_lconst C.x C.b hd hv (K H locs ls hP hD hS h)
-- the stack
theorem j_dup (q : Nat) (C : Cx κ G own cc rm nL) {a : Value} (hd : decode cc pc = .ok (.dup, 1)) (hq : pc + 1 = q) (ha : a.category = 1) (K : J κ n1 n2 ws q lv (a :: a :: st)) : J κ n1 n2 ws pc lv (a :: st) := by
  subst hq
  exact fun H locs ls hP hD hS h => lv_dup C.x C.b hd ha (K H locs ls hP hD hS h)
theorem j_dup2 (q : Nat) (C : Cx κ G own cc rm nL) {a b : Value} (hd : decode cc pc = .ok (.dup2, 1)) (hq : pc + 1 = q) (ha : a.category = 1) (hb : b.category = 1) (K : J κ n1 n2 ws q lv (a :: b :: a :: b :: st)) : J κ n1 n2 ws pc lv (a :: b :: st) := by
  subst hq
  exact fun H locs ls hP hD hS h => lv_dup2_11 C.x C.b hd ha hb (K H locs ls hP hD hS h)
theorem j_pop (q : Nat) (C : Cx κ G own cc rm nL) {a : Value} (hd : decode cc pc = .ok (.pop, 1)) (hq : pc + 1 = q) (ha : a.category = 1) (K : J κ n1 n2 ws q lv st) : J κ n1 n2 ws pc lv (a :: st) := by
  subst hq
  exact fun H locs ls hP hD hS h => lv_pop C.x C.b hd ha (K H locs ls hP hD hS h)
theorem j_pop2 (q : Nat) (C : Cx κ G own cc rm nL) {a : Value} (hd : decode cc pc = .ok (.pop2, 1)) (hq : pc + 1 = q) (ha : a.category = 2) (K : J κ n1 n2 ws q lv st) : J κ n1 n2 ws pc lv (a :: st) := by
  subst hq
  exact fun H locs ls hP hD hS h => lv_pop2_2 C.x C.b hd ha (K H locs ls hP hD hS h)
theorem j_iadd (q : Nat) (C : Cx κ G own cc rm nL) {x y : Int32} (hd : decode cc pc = .ok (.iadd, 1)) (hq : pc + 1 = q) (K : J κ n1 n2 ws q lv (.int (x + y) :: st)) : J κ n1 n2 ws pc lv (.int y :: .int x :: st) := by
  subst hq
  exact fun H locs ls hP hD hS h => lv_iadd C.x C.b hd (K H locs ls hP hD hS h)
theorem j_isub (q : Nat) (C : Cx κ G own cc rm nL) {x y : Int32} (hd : decode cc pc = .ok (.isub, 1)) (hq : pc + 1 = q) (K : J κ n1 n2 ws q lv (.int (x - y) :: st)) : J κ n1 n2 ws pc lv (.int y :: .int x :: st) := by
  subst hq
  exact fun H locs ls hP hD hS h => lv_isub C.x C.b hd (K H locs ls hP hD hS h)
theorem j_imul (q : Nat) (C : Cx κ G own cc rm nL) {x y : Int32} (hd : decode cc pc = .ok (.imul, 1)) (hq : pc + 1 = q) (K : J κ n1 n2 ws q lv (.int (x * y) :: st)) : J κ n1 n2 ws pc lv (.int y :: .int x :: st) := by
  subst hq
  exact fun H locs ls hP hD hS h => lv_imul C.x C.b hd (K H locs ls hP hD hS h)
theorem j_iand (q : Nat) (C : Cx κ G own cc rm nL) {x y : Int32} (hd : decode cc pc = .ok (.iand, 1)) (hq : pc + 1 = q) (K : J κ n1 n2 ws q lv (.int (x &&& y) :: st)) : J κ n1 n2 ws pc lv (.int y :: .int x :: st) := by
  subst hq
  exact fun H locs ls hP hD hS h => lv_iand C.x C.b hd (K H locs ls hP hD hS h)
theorem j_ior (q : Nat) (C : Cx κ G own cc rm nL) {x y : Int32} (hd : decode cc pc = .ok (.ior, 1)) (hq : pc + 1 = q) (K : J κ n1 n2 ws q lv (.int (x ||| y) :: st)) : J κ n1 n2 ws pc lv (.int y :: .int x :: st) := by
  subst hq
  exact fun H locs ls hP hD hS h => lv_ior C.x C.b hd (K H locs ls hP hD hS h)
theorem j_ixor (q : Nat) (C : Cx κ G own cc rm nL) {x y : Int32} (hd : decode cc pc = .ok (.ixor, 1)) (hq : pc + 1 = q) (K : J κ n1 n2 ws q lv (.int (x ^^^ y) :: st)) : J κ n1 n2 ws pc lv (.int y :: .int x :: st) := by
  subst hq
  exact fun H locs ls hP hD hS h => lv_ixor C.x C.b hd (K H locs ls hP hD hS h)
theorem j_ishl (q : Nat) (C : Cx κ G own cc rm nL) {x y : Int32} (hd : decode cc pc = .ok (.ishl, 1)) (hq : pc + 1 = q) (K : J κ n1 n2 ws q lv (.int (x <<< (y &&& 31)) :: st)) : J κ n1 n2 ws pc lv (.int y :: .int x :: st) := by
  subst hq
  exact fun H locs ls hP hD hS h => lv_ishl C.x C.b hd (K H locs ls hP hD hS h)
theorem j_ishr (q : Nat) (C : Cx κ G own cc rm nL) {x y : Int32} (hd : decode cc pc = .ok (.ishr, 1)) (hq : pc + 1 = q) (K : J κ n1 n2 ws q lv (.int (x >>> (y &&& 31)) :: st)) : J κ n1 n2 ws pc lv (.int y :: .int x :: st) := by
  subst hq
  exact fun H locs ls hP hD hS h => lv_ishr C.x C.b hd (K H locs ls hP hD hS h)
theorem j_iushr (q : Nat) (C : Cx κ G own cc rm nL) {x y : Int32} (hd : decode cc pc = .ok (.iushr, 1)) (hq : pc + 1 = q) (K : J κ n1 n2 ws q lv (.int ((x.toUInt32 >>> (y.toUInt32 &&& Int32.toUInt32 31)).toInt32) :: st)) : J κ n1 n2 ws pc lv (.int y :: .int x :: st) := by
  subst hq
  exact fun H locs ls hP hD hS h => lv_iushr C.x C.b hd rfl (K H locs ls hP hD hS h)
theorem j_idiv (q : Nat) (C : Cx κ G own cc rm nL) {x y : Int32} (hd : decode cc pc = .ok (.idiv, 1)) (hq : pc + 1 = q) (hne : ¬ y = 0) (K : J κ n1 n2 ws q lv (.int (x / y) :: st)) : J κ n1 n2 ws pc lv (.int y :: .int x :: st) := by
  subst hq
  exact fun H locs ls hP hD hS h => lv_idiv C.x C.b hd hne (K H locs ls hP hD hS h)
theorem j_irem (q : Nat) (C : Cx κ G own cc rm nL) {x y : Int32} (hd : decode cc pc = .ok (.irem, 1)) (hq : pc + 1 = q) (hne : ¬ y = 0) (K : J κ n1 n2 ws q lv (.int (x - x / y * y) :: st)) : J κ n1 n2 ws pc lv (.int y :: .int x :: st) := by
  subst hq
  exact fun H locs ls hP hD hS h => lv_irem C.x C.b hd hne (K H locs ls hP hD hS h)
theorem j_ldiv (q : Nat) (C : Cx κ G own cc rm nL) {x y : Int64} (hd : decode cc pc = .ok (.ldiv, 1)) (hq : pc + 1 = q) (hne : ¬ y = 0) (K : J κ n1 n2 ws q lv (.long (x / y) :: st)) : J κ n1 n2 ws pc lv (.long y :: .long x :: st) := by
  subst hq
  exact fun H locs ls hP hD hS h => lv_ldiv C.x C.b hd hne (K H locs ls hP hD hS h)
theorem j_lrem (q : Nat) (C : Cx κ G own cc rm nL) {x y : Int64} (hd : decode cc pc = .ok (.lrem, 1)) (hq : pc + 1 = q) (hne : ¬ y = 0) (K : J κ n1 n2 ws q lv (.long (x - x / y * y) :: st)) : J κ n1 n2 ws pc lv (.long y :: .long x :: st) := by
  subst hq
  exact fun H locs ls hP hD hS h => lv_lrem C.x C.b hd hne (K H locs ls hP hD hS h)
theorem j_lcmp (q : Nat) (C : Cx κ G own cc rm nL) {x y : Int64} (hd : decode cc pc = .ok (.lcmp, 1)) (hq : pc + 1 = q) (K : J κ n1 n2 ws q lv (.int (lg_cmp x y) :: st)) : J κ n1 n2 ws pc lv (.long y :: .long x :: st) := by
  subst hq
  exact fun H locs ls hP hD hS h => W.lcmp C.x C.b hd (K H locs ls hP hD hS h)
theorem j_i2l (q : Nat) (C : Cx κ G own cc rm nL) {x : Int32} (hd : decode cc pc = .ok (.i2l, 1)) (hq : pc + 1 = q) (K : J κ n1 n2 ws q lv (.long x.toInt64 :: st)) : J κ n1 n2 ws pc lv (.int x :: st) := by
  subst hq
  exact fun H locs ls hP hD hS h => lv_i2l C.x C.b hd rfl (K H locs ls hP hD hS h)
theorem j_i2b (q : Nat) (C : Cx κ G own cc rm nL) {x : Int32} (hd : decode cc pc = .ok (.i2b, 1)) (hq : pc + 1 = q) (K : J κ n1 n2 ws q lv (.int x.toInt8.toInt32 :: st)) : J κ n1 n2 ws pc lv (.int x :: st) := by
  subst hq
  exact fun H locs ls hP hD hS h => lv_i2b C.x C.b hd rfl (K H locs ls hP hD hS h)
theorem j_i2s (q : Nat) (C : Cx κ G own cc rm nL) {x : Int32} (hd : decode cc pc = .ok (.i2s, 1)) (hq : pc + 1 = q) (K : J κ n1 n2 ws q lv (.int x.toInt16.toInt32 :: st)) : J κ n1 n2 ws pc lv (.int x :: st) := by
  subst hq
  exact fun H locs ls hP hD hS h => lv_i2s C.x C.b hd rfl (K H locs ls hP hD hS h)
theorem j_goto (q : Nat) (C : Cx κ G own cc rm nL) {off : Int} (hd : decode cc pc = .ok (.goto off, 3)) (ht : (pc : Int) + off = (q : Int)) (K : J κ n1 n2 ws q lv st) : J κ n1 n2 ws pc lv st :=
  fun H locs ls hP hD hS h => lv_goto C.x C.b hd ht (K H locs ls hP hD hS h)
theorem j_icmp_eq (q t : Nat) (C : Cx κ G own cc rm nL) {x y : Int32} {off : Int} (hd : decode cc pc = .ok (.if_icmp .eq off, 3)) (hq : pc + 3 = q) (ht : (pc : Int) + off = (t : Int)) (Kt : x = y → J κ n1 n2 ws t lv st) (Kf : ¬ x = y → J κ n1 n2 ws q lv st) : J κ n1 n2 ws pc lv (.int y :: .int x :: st) := by
  subst hq
  exact fun H locs ls hP hD hS h => lv_icmp_eq C.x C.b hd ht (fun c => Kt c H locs ls hP hD hS h) (fun c => Kf c H locs ls hP hD hS h)
theorem j_if_eq (q t : Nat) (C : Cx κ G own cc rm nL) {x : Int32} {off : Int} (hd : decode cc pc = .ok (.ifCond .eq off, 3)) (hq : pc + 3 = q) (ht : (pc : Int) + off = (t : Int)) (Kt : x = 0 → J κ n1 n2 ws t lv st) (Kf : ¬ x = 0 → J κ n1 n2 ws q lv st) : J κ n1 n2 ws pc lv (.int x :: st) := by
  subst hq
  exact fun H locs ls hP hD hS h => lv_if_eq C.x C.b hd ht (fun c => Kt c H locs ls hP hD hS h) (fun c => Kf c H locs ls hP hD hS h)
theorem j_icmp_ne (q t : Nat) (C : Cx κ G own cc rm nL) {x y : Int32} {off : Int} (hd : decode cc pc = .ok (.if_icmp .ne off, 3)) (hq : pc + 3 = q) (ht : (pc : Int) + off = (t : Int)) (Kt : ¬ x = y → J κ n1 n2 ws t lv st) (Kf : x = y → J κ n1 n2 ws q lv st) : J κ n1 n2 ws pc lv (.int y :: .int x :: st) := by
  subst hq
  exact fun H locs ls hP hD hS h => lv_icmp_ne C.x C.b hd ht (fun c => Kt c H locs ls hP hD hS h) (fun c => Kf c H locs ls hP hD hS h)
theorem j_if_ne (q t : Nat) (C : Cx κ G own cc rm nL) {x : Int32} {off : Int} (hd : decode cc pc = .ok (.ifCond .ne off, 3)) (hq : pc + 3 = q) (ht : (pc : Int) + off = (t : Int)) (Kt : ¬ x = 0 → J κ n1 n2 ws t lv st) (Kf : x = 0 → J κ n1 n2 ws q lv st) : J κ n1 n2 ws pc lv (.int x :: st) := by
  subst hq
  exact fun H locs ls hP hD hS h => lv_if_ne C.x C.b hd ht (fun c => Kt c H locs ls hP hD hS h) (fun c => Kf c H locs ls hP hD hS h)
theorem j_icmp_lt (q t : Nat) (C : Cx κ G own cc rm nL) {x y : Int32} {off : Int} (hd : decode cc pc = .ok (.if_icmp .lt off, 3)) (hq : pc + 3 = q) (ht : (pc : Int) + off = (t : Int)) (Kt : x < y → J κ n1 n2 ws t lv st) (Kf : ¬ x < y → J κ n1 n2 ws q lv st) : J κ n1 n2 ws pc lv (.int y :: .int x :: st) := by
  subst hq
  exact fun H locs ls hP hD hS h => lv_icmp_lt C.x C.b hd ht (fun c => Kt c H locs ls hP hD hS h) (fun c => Kf c H locs ls hP hD hS h)
theorem j_if_lt (q t : Nat) (C : Cx κ G own cc rm nL) {x : Int32} {off : Int} (hd : decode cc pc = .ok (.ifCond .lt off, 3)) (hq : pc + 3 = q) (ht : (pc : Int) + off = (t : Int)) (Kt : x < 0 → J κ n1 n2 ws t lv st) (Kf : ¬ x < 0 → J κ n1 n2 ws q lv st) : J κ n1 n2 ws pc lv (.int x :: st) := by
  subst hq
  exact fun H locs ls hP hD hS h => lv_if_lt C.x C.b hd ht (fun c => Kt c H locs ls hP hD hS h) (fun c => Kf c H locs ls hP hD hS h)
theorem j_icmp_ge (q t : Nat) (C : Cx κ G own cc rm nL) {x y : Int32} {off : Int} (hd : decode cc pc = .ok (.if_icmp .ge off, 3)) (hq : pc + 3 = q) (ht : (pc : Int) + off = (t : Int)) (Kt : y ≤ x → J κ n1 n2 ws t lv st) (Kf : ¬ y ≤ x → J κ n1 n2 ws q lv st) : J κ n1 n2 ws pc lv (.int y :: .int x :: st) := by
  subst hq
  exact fun H locs ls hP hD hS h => lv_icmp_ge C.x C.b hd ht (fun c => Kt c H locs ls hP hD hS h) (fun c => Kf c H locs ls hP hD hS h)
theorem j_if_ge (q t : Nat) (C : Cx κ G own cc rm nL) {x : Int32} {off : Int} (hd : decode cc pc = .ok (.ifCond .ge off, 3)) (hq : pc + 3 = q) (ht : (pc : Int) + off = (t : Int)) (Kt : 0 ≤ x → J κ n1 n2 ws t lv st) (Kf : ¬ 0 ≤ x → J κ n1 n2 ws q lv st) : J κ n1 n2 ws pc lv (.int x :: st) := by
  subst hq
  exact fun H locs ls hP hD hS h => lv_if_ge C.x C.b hd ht (fun c => Kt c H locs ls hP hD hS h) (fun c => Kf c H locs ls hP hD hS h)
theorem j_icmp_gt (q t : Nat) (C : Cx κ G own cc rm nL) {x y : Int32} {off : Int} (hd : decode cc pc = .ok (.if_icmp .gt off, 3)) (hq : pc + 3 = q) (ht : (pc : Int) + off = (t : Int)) (Kt : y < x → J κ n1 n2 ws t lv st) (Kf : ¬ y < x → J κ n1 n2 ws q lv st) : J κ n1 n2 ws pc lv (.int y :: .int x :: st) := by
  subst hq
  exact fun H locs ls hP hD hS h => lv_icmp_gt C.x C.b hd ht (fun c => Kt c H locs ls hP hD hS h) (fun c => Kf c H locs ls hP hD hS h)
theorem j_if_gt (q t : Nat) (C : Cx κ G own cc rm nL) {x : Int32} {off : Int} (hd : decode cc pc = .ok (.ifCond .gt off, 3)) (hq : pc + 3 = q) (ht : (pc : Int) + off = (t : Int)) (Kt : 0 < x → J κ n1 n2 ws t lv st) (Kf : ¬ 0 < x → J κ n1 n2 ws q lv st) : J κ n1 n2 ws pc lv (.int x :: st) := by
  subst hq
  exact fun H locs ls hP hD hS h => lv_if_gt C.x C.b hd ht (fun c => Kt c H locs ls hP hD hS h) (fun c => Kf c H locs ls hP hD hS h)
theorem j_icmp_le (q t : Nat) (C : Cx κ G own cc rm nL) {x y : Int32} {off : Int} (hd : decode cc pc = .ok (.if_icmp .le off, 3)) (hq : pc + 3 = q) (ht : (pc : Int) + off = (t : Int)) (Kt : x ≤ y → J κ n1 n2 ws t lv st) (Kf : ¬ x ≤ y → J κ n1 n2 ws q lv st) : J κ n1 n2 ws pc lv (.int y :: .int x :: st) := by
  subst hq
  exact fun H locs ls hP hD hS h => lv_icmp_le C.x C.b hd ht (fun c => Kt c H locs ls hP hD hS h) (fun c => Kf c H locs ls hP hD hS h)
theorem j_if_le (q t : Nat) (C : Cx κ G own cc rm nL) {x : Int32} {off : Int} (hd : decode cc pc = .ok (.ifCond .le off, 3)) (hq : pc + 3 = q) (ht : (pc : Int) + off = (t : Int)) (Kt : x ≤ 0 → J κ n1 n2 ws t lv st) (Kf : ¬ x ≤ 0 → J κ n1 n2 ws q lv st) : J κ n1 n2 ws pc lv (.int x :: st) := by
  subst hq
  exact fun H locs ls hP hD hS h => lv_if_le C.x C.b hd ht (fun c => Kt c H locs ls hP hD hS h) (fun c => Kf c H locs ls hP hD hS h)
-- switches
theorem j_tableIn (t : Nat) (C : Cx κ G own cc rm nL) {dflt lo hi : Int} {offs : Array Int} {len : Nat} {x : Int32} {off : Int} (k : Int32) (hd : decode cc pc = .ok (.tableswitch dflt lo hi offs, len)) (hx : x = k) (h1 : ¬ k.toInt < lo) (h2 : ¬ hi < k.toInt) (ho : offs[(k.toInt - lo).toNat]? = some off) (ht : (pc : Int) + off = (t : Int)) (K : J κ n1 n2 ws t lv st) : J κ n1 n2 ws pc lv (.int x :: st) := by
  subst hx
  exact fun H locs ls hP hD hS h => lv_tableIn C.x C.b hd h1 h2 ho ht (K H locs ls hP hD hS h)
theorem j_tableOut (t : Nat) (C : Cx κ G own cc rm nL) {dflt lo hi : Int} {offs : Array Int} {len : Nat} {x : Int32} (hd : decode cc pc = .ok (.tableswitch dflt lo hi offs, len)) (hx : x.toInt < lo ∨ hi < x.toInt) (ht : (pc : Int) + dflt = (t : Int)) (K : J κ n1 n2 ws t lv st) : J κ n1 n2 ws pc lv (.int x :: st) :=
  fun H locs ls hP hD hS h => lv_tableOut C.x C.b hd hx ht (K H locs ls hP hD hS h)
theorem j_lookup (t : Nat) (C : Cx κ G own cc rm nL) {dflt : Int} {ps : Array (Int × Int)} {len : Nat} {x : Int32} {off : Int} (hd : decode cc pc = .ok (.lookupswitch dflt ps, len)) (hp : (ps.toList.zip (ps.toList.drop 1)).all (fun (a, next) => a.1 < next.1) = true) (ho : Op.lookupswitch.offset ps.toList dflt x.toInt = off) (ht : (pc : Int) + off = (t : Int)) (K : J κ n1 n2 ws t lv st) : J κ n1 n2 ws pc lv (.int x :: st) :=
  fun H locs ls hP hD hS h => lv_lookup C.x C.b hd hp ho ht (K H locs ls hP hD hS h)
theorem ne_toInt {x k : Int32} {z : Int} (hz : k.toInt = z) (h : ¬ x = k) : ¬ x.toInt = z := fun e => h (Int32.toInt_inj.mp (e.trans hz.symm))
-- fields
theorem j_get (q : Nat) (C : Cx κ G own cc rm nL) {Cn : String} {T : u_T} {N ci idx : Nat} (hin : ∀ w ∈ u_ws Cn T N, w ∈ gW) (q0 : Nat) {a : Nat} {fs : List Value} (he : ws[q0]? = some (a, .inr (ci, fs))) (hc : vwCl[ci]? = some (Cn, T, N)) (k : Nat) (hk : k < N) (hlink : Cond.fieldLink own idx (T k).1 (T k).2.1 (T k).2.2.1 ∈ gW) {v : Value} (hv : fs[k]? = some v) (hd : decode cc pc = .ok (.getfield idx, 3)) (hq : pc + 3 = q) (K : J κ n1 n2 ws q lv (v :: st)) : J κ n1 n2 ws pc lv (.ref a :: st) := by
  subst hq
  exact fun H locs ls hP hD hS h => va_get C.x C.b C.ts hin C.ow C.K hP q0 he hc k hk (C.ts _ hlink) (fun _ h9 => h9) hv hd (K H locs ls hP hD hS h)
theorem j_put (q : Nat) (C : Cx κ G own cc rm nL) {Cn : String} {T : u_T} {N ci idx : Nat} (hin : ∀ w ∈ u_ws Cn T N, w ∈ gW) (ty0 : Nat → FieldType) (hty : ∀ k, k < N → parseFieldDescriptor (T k).2.2.1 = some (ty0 k)) (hnm : ∀ a, a < N → ∀ b, b < N → a ≠ b → (T a).2.1 ≠ (T b).2.1) (q0 : Nat) {a : Nat} {fs : List Value} (he : ws[q0]? = some (a, .inr (ci, fs))) (hc : vwCl[ci]? = some (Cn, T, N)) (k : Nat) (hk : k < N) (hlink : Cond.fieldLink own idx (T k).1 (T k).2.1 (T k).2.2.1 ∈ gW) (hfin : (T k).2.2.2 = false) {x : Int32} (hd0 : ty0 k = .int) (hl : k < fs.length) (hd : decode cc pc = .ok (.putfield idx, 3)) (hq : pc + 3 = q) (hset : ws.set q0 (a, .inr (ci, fs.set k (.int x))) = ws') (K : J κ n1 n2 ws' q lv st) : J κ n1 n2 ws pc lv (.int x :: .ref a :: st) := by
  subst hq
  subst hset
  exact fun H locs ls hP hD hS h => va_put C.x C.b C.ts hin ty0 hty hnm C.ow C.K hP hD hS q0 he hc k hk (C.ts _ hlink) (fun _ h9 => h9) hfin ((hty k hk).trans (congrArg some hd0)) rfl rfl hl hd (fun H1 locs1 hP1 hD1 hS1 => K H1 locs1 ls hP1 hD1 hS1 h)
-- arrays of numbers
theorem j_iald (q : Nat) (C : Cx κ G own cc rm nL) (q0 : Nat) {a n : Nat} {f : Nat → Int32} (ha : ws[q0]? = some (a, .inl (G.2.1, n, .inl f))) {i : Int32} (hin : vp_in i n) (hd : decode cc pc = .ok (.iaload, 1)) (hq : pc + 1 = q) (K : J κ n1 n2 ws q lv (.int (f i.toNatClampNeg) :: st)) : J κ n1 n2 ws pc lv (.int i :: .ref a :: st) := by
  subst hq
  exact fun H locs ls hP hD hS h => va_iald C.x C.b C.K hP q0 0 ha rfl hin hd (K H locs ls hP hD hS h)
theorem j_iast (q : Nat) (C : Cx κ G own cc rm nL) (q0 : Nat) {a n : Nat} {f : Nat → Int32} (ha : ws[q0]? = some (a, .inl (G.2.1, n, .inl f))) {i x : Int32} (hin : vp_in i n) (hd : decode cc pc = .ok (.iastore, 1)) (hq : pc + 1 = q) (hset : ws.set q0 (a, .inl (G.2.1, n, .inl (upd f i.toNatClampNeg x))) = ws') (K : J κ n1 n2 ws' q lv st) : J κ n1 n2 ws pc lv (.int x :: .int i :: .ref a :: st) := by
  subst hq
  subst hset
  exact fun H locs ls hP hD hS h => va_iast C.x C.b C.K hP hD hS q0 0 ha rfl hin hd (fun H1 locs1 hP1 hD1 hS1 => K H1 locs1 ls hP1 hD1 hS1 h)
theorem j_aald (q : Nat) (C : Cx κ G own cc rm nL) (q0 : Nat) {a n : Nat} {f : Nat → Option Nat} (ha : ws[q0]? = some (a, .inl (G.2.2.1, n, .inr (.inr (.inr (.inr f)))))) {i : Int32} {z : Nat} (hin : vp_in i n) (hf : f i.toNatClampNeg = some z) (hd : decode cc pc = .ok (.aaload, 1)) (hq : pc + 1 = q) (K : J κ n1 n2 ws q lv (.ref z :: st)) : J κ n1 n2 ws pc lv (.int i :: .ref a :: st) := by
  subst hq
  exact fun H locs ls hP hD hS h => va_aldq C.x C.b C.K hP q0 1 ha rfl hin hd (by rw [hf]; exact K H locs ls hP hD hS h)
theorem z_System : Cond.initialized "java/lang/System" ∈ gW := zJ10
theorem j_copy (q : Nat) (C : Cx κ G own cc rm nL) {idx : Nat} (hlink : Cond.methodLink own idx arraycopyName ∈ gW) (q0 q1 : Nat) {a0 a m0 m1 : Nat} {f g : Nat → Int32} (ha0 : ws[q0]? = some (a0, .inl (G.2.1, m0, .inl f))) (ha1 : ws[q1]? = some (a, .inl (G.2.1, m1, .inl g))) {sp dp n : Int32} (h1 : ¬ sp < 0) (h2 : ¬ dp < 0) (h3 : ¬ n < 0) (h4 : sp.toNatClampNeg + n.toNatClampNeg ≤ m0) (h5 : dp.toNatClampNeg + n.toNatClampNeg ≤ m1) (hfr : 1 ≤ rm.frames) (hlo : (st.map fun v => v.category).sum + (nativeFrameWords "java/lang/System" "arraycopy" 5 + 11) ≤ rm.locals) (hd : decode cc pc = .ok (.invokestatic idx, 3)) (hq : pc + 3 = q) (hset : ws.set q1 (a, .inl (G.2.1, m1, .inl (va_cpy f g sp.toNatClampNeg dp.toNatClampNeg n.toNatClampNeg))) = ws') (K : J κ n1 n2 ws' q lv st) : J κ n1 n2 ws pc lv (.int n :: .int dp :: .ref a :: .int sp :: .ref a0 :: st) := by
  subst hq
  subst hset
  exact fun H locs ls hP hD hS h => va_copyi C.x C.b (by rw [C.ml, h.1, C.N]) C.ow (C.ts _ hlink) (C.ts _ z_native) (C.ts _ z_static) (C.ts _ z_System) C.K hP hD hS q0 q1 0 0 ha0 ha1 rfl rfl rfl h1 h2 h3 h4 h5 (fun _ _ => rfl) (by rw [C.R]; exact hfr) (by rw [C.R]; exact hlo) hd (fun H1 locs1 hP1 hD1 hS1 => K H1 locs1 ls hP1 hD1 hS1 h)
-- the two tables of codes
theorem j_getW (q : Nat) (C : Cx κ G own cc rm nL) {idx : Nat} (hlink : Cond.fieldLink own idx RX3 "WAY_CODES" "[I" ∈ gW) (hd : decode cc pc = .ok (.getstatic idx, 3)) (hq : pc + 3 = q) (K : J κ n1 n2 ws q lv (.ref G.2.2.2.1 :: st)) : J κ n1 n2 ws pc lv st := by
  subst hq
  exact fun H locs ls hP hD hS h => va_gets C.x C.b C.E.2.2.2.2.2.2.1 hS C.ow (C.ts _ hlink) (fun _ h9 => h9) hd (K H locs ls hP hD hS h)
theorem j_getK (q : Nat) (C : Cx κ G own cc rm nL) {idx : Nat} (hlink : Cond.fieldLink own idx RX3 "KIND_CODES" "[I" ∈ gW) (hd : decode cc pc = .ok (.getstatic idx, 3)) (hq : pc + 3 = q) (K : J κ n1 n2 ws q lv (.ref G.2.2.2.2 :: st)) : J κ n1 n2 ws pc lv st := by
  subst hq
  exact fun H locs ls hP hD hS h => va_gets C.x C.b C.E.2.2.2.2.2.2.2.2.1 hS C.ow (C.ts _ hlink) (fun _ h9 => h9) hd (K H locs ls hP hD hS h)
theorem j_tiW (q : Nat) (C : Cx κ G own cc rm nL) {i x : Int32} (hin : vp_in i 5) (hx : tbW i.toNatClampNeg = .int x) (hd : decode cc pc = .ok (.iaload, 1)) (hq : pc + 1 = q) (K : J κ n1 n2 ws q lv (.int x :: st)) : J κ n1 n2 ws pc lv (.int i :: .ref G.2.2.2.1 :: st) := by
  subst hq
  exact fun H locs ls hP hD hS h => va_ti C.x C.b C.E.2.2.2.2.2.2.2.1 hS hin hx hd (K H locs ls hP hD hS h)
theorem j_tiK (q : Nat) (C : Cx κ G own cc rm nL) {i x : Int32} (hin : vp_in i 3) (hx : tbK i.toNatClampNeg = .int x) (hd : decode cc pc = .ok (.iaload, 1)) (hq : pc + 1 = q) (K : J κ n1 n2 ws q lv (.int x :: st)) : J κ n1 n2 ws pc lv (.int i :: .ref G.2.2.2.2 :: st) := by
  subst hq
  exact fun H locs ls hP hD hS h => va_ti C.x C.b C.E.2.2.2.2.2.2.2.2.2.1 hS hin hx hd (K H locs ls hP hD hS h)
theorem j_tlW (q : Nat) (C : Cx κ G own cc rm nL) (hd : decode cc pc = .ok (.arraylength, 1)) (hq : pc + 1 = q) (K : J κ n1 n2 ws q lv (.int 5 :: st)) : J κ n1 n2 ws pc lv (.ref G.2.2.2.1 :: st) := by
  subst hq
  exact fun H locs ls hP hD hS h => va_tlen C.x C.b C.E.2.2.2.2.2.2.2.1 hS rfl hd (K H locs ls hP hD hS h)
theorem j_tlK (q : Nat) (C : Cx κ G own cc rm nL) (hd : decode cc pc = .ok (.arraylength, 1)) (hq : pc + 1 = q) (K : J κ n1 n2 ws q lv (.int 3 :: st)) : J κ n1 n2 ws pc lv (.ref G.2.2.2.2 :: st) := by
  subst hq
  exact fun H locs ls hP hD hS h => va_tlen C.x C.b C.E.2.2.2.2.2.2.2.2.2.1 hS rfl hd (K H locs ls hP hD hS h)
end JR
/-! ===== contracts over worlds of numbers: rows f, numbers v ===== -/
abbrev FF : Type := Nat → Nat → Int32
abbrev VV : Type := Nat → Int32
/-- a row, a number put anew -/
def fu {α : Type} (f : Nat → α) (k : Nat) (g : α) : Nat → α := fun j => if j = k then g else f j
/-- a part of the rows (numbers), from b on, n of them, put anew -/
def mg {α : Type} (f : Nat → α) (b n : Nat) (g : Nat → α) : Nat → α := fun j => if b ≤ j ∧ j < b + n then g (j - b) else f j
abbrev rd (f : Nat → Int32) (i : Int32) : Int32 := f i.toNatClampNeg
abbrev wr (f : Nat → Int32) (i x : Int32) : Nat → Int32 := upd f i.toNatClampNeg x
def Pw (G : Gx) (ws : va_W) (sz : Nat) (U : State) : Prop := U.heap.size = sz ∧ va_P G.1 vwCl ws U.heap ∧ va_K G.1 vwCl (tys2 G.2.1 G.2.2.1) U ∧ va_D (fun _ => True) ws ∧ Ev G.2.2.2.1 G.2.2.2.2 (va_A ws sz) U U.heap
theorem Pw.blind {G : Gx} {ws : va_W} {sz : Nat} {av : List Value} : FrameBlind (va_Pc av (Pw G ws sz)) := fun a U g mk q => by
  obtain ⟨q0, q1, qP, qK, qD, qE⟩ := q
  exact ⟨q0, q1, qP, va_K.moved (u := U) (U := U.calling g mk a) (Vm.Alike.refl U.vm) qK, qD, Ev.same (s := U) (U := U.calling g mk a) rfl qE⟩
abbrev Bw (G : Gx) (w : FF → VV → va_W) (u : FF × VV) (t : State) : Prop := va_P G.1 vwCl (w u.1 u.2) t.heap
def MetI (l : Launch) (y : MethodName) (wy : List Cond) (rm : Room) (G : Gx) (av : List Value) (w : FF → VV → va_W) (f : FF) (v : VV) (post : Int32 → FF → VV → Prop) : Prop :=
  ∀ sz : Nat, Met l y wy rm (va_Pc av (Pw G (w f v) sz)) (va_Qi (fun r (u : FF × VV) => post r u.1 u.2) (Bw G w) (va_A (w f v) sz)) 0 0 (va_A (w f v) sz)
def MetL (l : Launch) (y : MethodName) (wy : List Cond) (rm : Room) (G : Gx) (av : List Value) (w : FF → VV → va_W) (f : FF) (v : VV) (post : Int64 → FF → VV → Prop) : Prop :=
  ∀ sz : Nat, Met l y wy rm (va_Pc av (Pw G (w f v) sz)) (va_Ql (fun r (u : FF × VV) => post r u.1 u.2) (Bw G w) (va_A (w f v) sz)) 0 0 (va_A (w f v) sz)
def MetV (l : Launch) (y : MethodName) (wy : List Cond) (rm : Room) (G : Gx) (av : List Value) (w : FF → VV → va_W) (f : FF) (v : VV) (post : FF → VV → Prop) : Prop :=
  ∀ sz : Nat, Met l y wy rm (va_Pc av (Pw G (w f v) sz)) (va_Qv (fun (u : FF × VV) => post u.1 u.2) (Bw G w) (va_A (w f v) sz)) 0 0 (va_A (w f v) sz)
def MetR (l : Launch) (y : MethodName) (wy : List Cond) (rm : Room) (G : Gx) (av : List Value) (w : FF → VV → va_W) (ar : Nat) (f : FF) (v : VV) (post : FF → VV → Prop) : Prop :=
  ∀ sz : Nat, Met l y wy rm (va_Pc av (Pw G (w f v) sz)) (va_Qr (fun (u : FF × VV) => post u.1 u.2) (fun u ra t => ra = ar ∧ Bw G w u t) (va_A (w f v) sz)) 0 0 (va_A (w f v) sz)
/-- the addresses alone say whether cells are apart -/
theorem va_D.fst {A : Nat → Prop} {ws ws' : va_W} (h : va_D A ws) (e : ws'.map Prod.fst = ws.map Prod.fst) : va_D A ws' := by
  have key : ∀ (k : Nat) (q : Nat × va_E), ws'[k]? = some q → ∃ q0, ws[k]? = some q0 ∧ q0.1 = q.1 := by
    intro k q hk
    have h1 : (ws'.map Prod.fst)[k]? = some q.1 := by rw [List.getElem?_map, hk]; rfl
    rw [e, List.getElem?_map] at h1
    cases h2 : ws[k]? with
    | none => rw [h2] at h1; cases h1
    | some q0 => rw [h2] at h1; exact ⟨q0, rfl, Option.some.inj h1⟩
  refine ⟨fun i j x y hi hj hxy => ?_, fun k q hk => ?_⟩
  · obtain ⟨x0, h1, h2⟩ := key i x hi
    obtain ⟨y0, h3, h4⟩ := key j y hj
    exact h.1 i j x0 y0 h1 h3 (h2.trans (hxy.trans h4.symm))
  · obtain ⟨q0, h1, h2⟩ := key k q hk
    rw [← h2]
    exact h.2 k q0 h1
theorem seg_at {pre mid suf : va_W} {k : Nat} {q : Nat × va_E} (h : mid[k]? = some q) : (pre ++ (mid ++ suf))[pre.length + k]? = some q := by
  have hl := (List.getElem?_eq_some_iff.mp h).1
  rw [List.getElem?_append_right (by omega), Nat.add_sub_cancel_left, List.getElem?_append_left hl]
  exact h
theorem seg_P {D : va_G} {cl : List vw_C} {pre mid suf : va_W} {H : Heap} (h : va_P D cl (pre ++ (mid ++ suf)) H) : va_P D cl mid H := fun _ q hk => h _ q (seg_at hk)
theorem seg_D {A : Nat → Prop} {pre mid suf : va_W} (h : va_D A (pre ++ (mid ++ suf))) : va_D A mid :=
  ⟨fun i j x y hi hj hxy => by have := h.1 _ _ x y (seg_at hi) (seg_at hj) hxy; omega, fun _ q hk => h.2 _ q (seg_at hk)⟩
theorem seg_A {A : Nat → Prop} {pre mid suf : va_W} {H0 H : Heap} {locs : List Loc} (hD : va_D A (pre ++ (mid ++ suf))) (hS : va_S A H0 H locs) (hA : ∀ q, H0.size ≤ q → A q) : ∀ q, va_A mid H.size q → A q := by
  intro q h
  rcases h with ⟨k, e, h⟩ | h
  · exact hD.2 _ (q, e) (seg_at h)
  · exact hA q (Nat.le_trans hS.1 h)
theorem seg_join {A : Nat → Prop} {D : va_G} {cl : List vw_C} {pre mid mid' suf : va_W} {H H1 : Heap} (hP : va_P D cl (pre ++ (mid ++ suf)) H) (hD : va_D A (pre ++ (mid ++ suf))) (hk : ∀ q : Nat, q < H.size → ¬ va_A mid H.size q → H1[q]? = H[q]?) (hP1 : va_P D cl mid' H1) : va_P D cl (pre ++ (mid' ++ suf)) H1 := by
  have out : ∀ (i : Nat) (x : Nat × va_E), (pre ++ (mid ++ suf))[i]? = some x → (i < pre.length ∨ pre.length + mid.length ≤ i) → va_at D cl x H1 := by
    intro i x hi hio
    have hl := (hP i x hi).lt
    refine (hP i x hi).kept (hk x.1 hl ?_)
    rintro (⟨k, e, h⟩ | h)
    · have hkl := (List.getElem?_eq_some_iff.mp h).1
      have := hD.1 i _ x (x.1, e) hi (seg_at h) rfl
      omega
    · omega
  refine va_P.app (fun k q hq => ?_) (va_P.app hP1 (fun k q hq => ?_))
  · have hl := (List.getElem?_eq_some_iff.mp hq).1
    exact out k q (by rw [List.getElem?_append_left hl]; exact hq) (Or.inl hl)
  · refine out (pre.length + (mid.length + k)) q ?_ (Or.inr (by omega))
    rw [List.getElem?_append_right (by omega), Nat.add_sub_cancel_left, List.getElem?_append_right (by omega), Nat.add_sub_cancel_left]
    exact hq

section JC
variable {κ : Kx} {G : Gx} {own : String} {cc : ByteArray} {rm : Room} {nL n1 n2 : Nat} {ws : va_W} {pc : Nat} {lv : List (Nat × Value)} {st rest : List Value}
variable {w : FF → VV → va_W} {f : FF} {v : VV} {y : MethodName} {bytes : ByteArray} {maxL idx : Nat} {ret : Option FieldType} {rmy : Room} {As : List Value} {a : Nat} {Cn : String}
abbrev kRun (κ : Kx) (H : Heap) (locs : List Loc) (n1 n2 : Nat) (g : JFrame) (rest : List Value) (Qa : State → Outcome → State → Prop) (free : Addr → Prop) : Prop := va_Run (kp κ) (kl κ) (ke κ) (kR κ) (ks κ) (km κ) (ka κ) (kb κ) (kt κ) (kc κ) H locs n1 n2 0 0 g rest Qa free
/-- the state in which a callee begins -/
theorem callee_pre (C : Cx κ G own cc rm nL) {H : Heap} {locs : List Loc} {pre suf : va_W} {av : List Value} (hP : va_P (kD κ) vwCl (pre ++ (w f v ++ suf)) H) (hD : va_D (kA κ) (pre ++ (w f v ++ suf))) (hS : va_S (kA κ) (ks κ).heap H locs) : ∀ U : State, U.heap = H → (ks κ).WarmedH U.vm → va_Pc av (Pw G (w f v) H.size) av.toArray U := by
  intro U hU hW
  refine ⟨rfl, by rw [hU], by rw [hU, ← C.D]; exact seg_P hP, by rw [← C.D]; exact va_K.moved hW.alike C.K, (seg_D hD).weaken (fun _ _ _ _ => trivial), ?_⟩
  rw [hU]
  exact Ev.warm hW ((C.E.kept hS.2.1).narrow (seg_A hD hS C.hA))
theorem run_V (C : Cx κ G own cc rm nL) {Qc : Array Value → State → Outcome → State → Prop} {H : Heap} {locs : List Loc} {ls : Array Slot} {pre suf : va_W} {ci : Nat} {fs : List Value} {T : u_T} {N : Nat}
    (hM : Met (kl κ) y (gC y bytes maxL ret) rmy (va_Pc (.ref a :: As) (Pw G (w f v) H.size)) Qc 0 0 (va_A (w f v) H.size)) (ok : okV Cn y bytes maxL ret) (hlink : Cond.methodLink own idx y ∈ gW) (hrc : rmy.cells = 0 ∧ rmy.slots = 0) (hdc : y.cls = Cn ∧ y.cls ≠ "java/lang/invoke/MethodHandle" ∧ y.cls ≠ "java/lang/invoke/VarHandle" ∧ (parseMethodDescriptor y.desc).map (fun d => d.parameters.length) = some As.length) (hroom : rmy.frames + 1 ≤ rm.frames ∧ 8 + (maxL + 11) + rmy.locals ≤ rm.locals) (hn : n1 ≤ rm.cells ∧ n2 ≤ rm.slots)
    (hP : va_P (kD κ) vwCl (pre ++ (w f v ++ suf)) H) (hD : va_D (kA κ) (pre ++ (w f v ++ suf))) (hS : va_S (kA κ) (ks κ).heap H locs) (hl : lv_has ls (kN κ) lv) (qr : Nat) (hrv : (w f v)[qr]? = some (a, .inr (ci, fs))) (hci : vwCl[ci]? = some (Cn, T, N)) (hst : st = As.reverse ++ .ref a :: rest) (hrest : (rest.map fun v => v.category).sum ≤ 8) (hd : decode cc pc = .ok (.invokevirtual idx, 3)) :
    kRun κ H locs n1 n2 (F0 (km κ) pc ls st) rest (Qc (Value.ref a :: As).toArray) (va_A (w f v) H.size) := by
  have g : GoodIn gW (wsV own idx Cn y (gC y bytes maxL ret)) := fun w0 hw => by
    have hm : w0 ∈ gW := by
      rcases List.mem_append.mp hw with h | h
      · simp only [List.mem_cons, List.not_mem_nil, or_false] at h
        rcases h with rfl | rfl | rfl | rfl
        · exact hlink
        · exact ok.2.1
        · exact ok.2.2.1
        · exact ok.2.2.2
      · rcases List.mem_cons.mp h with rfl | h2
        · exact ok.1
        · exact h2
    exact ⟨hm, good_of_word (gW_ok w0 hm)⟩
  exact va_runV (C := Cn) (As := As) (rest := rest) ⟨C.x, C.b, C.ml, C.ow, C.ts⟩ hM (cwV As.length C.ts g rfl hrc.1 hrc.2 hdc (by rw [C.R]; exact hroom)) ⟨Pw.blind, va_recv C.K (seg_P hP) hci hrv, callee_pre C hP hD hS⟩ rfl rfl (hl.1.trans C.N) hst (lv_room hrest) hd (by rw [C.R]; exact hn)
theorem run_S (C : Cx κ G own cc rm nL) {Qc : Array Value → State → Outcome → State → Prop} {H : Heap} {locs : List Loc} {ls : Array Slot} {pre suf : va_W}
    (hM : Met (kl κ) y (gC y bytes maxL ret) rmy (va_Pc As (Pw G (w f v) H.size)) Qc 0 0 (va_A (w f v) H.size)) (ok : okS y.cls y bytes maxL ret) (hlink : Cond.methodLink own idx y ∈ gW) (hrc : rmy.cells = 0 ∧ rmy.slots = 0) (hdc : y.cls ≠ "java/lang/invoke/MethodHandle" ∧ y.cls ≠ "java/lang/invoke/VarHandle" ∧ (parseMethodDescriptor y.desc).map (fun d => d.parameters.length) = some As.length) (hroom : rmy.frames + 1 ≤ rm.frames ∧ 8 + (maxL + 11) + rmy.locals ≤ rm.locals) (hn : n1 ≤ rm.cells ∧ n2 ≤ rm.slots)
    (hP : va_P (kD κ) vwCl (pre ++ (w f v ++ suf)) H) (hD : va_D (kA κ) (pre ++ (w f v ++ suf))) (hS : va_S (kA κ) (ks κ).heap H locs) (hl : lv_has ls (kN κ) lv) (hst : st = As.reverse ++ rest) (hrest : (rest.map fun v => v.category).sum ≤ 8) (hd : decode cc pc = .ok (.invokestatic idx, 3)) :
    kRun κ H locs n1 n2 (F0 (km κ) pc ls st) rest (Qc As.toArray) (va_A (w f v) H.size) := by
  have g : GoodIn gW (va_wsS own idx y (gC y bytes maxL ret)) := fun w0 hw => by
    have hm : w0 ∈ gW := by
      rcases List.mem_append.mp hw with h | h
      · simp only [List.mem_cons, List.not_mem_nil, or_false] at h
        rcases h with rfl | rfl | rfl
        · exact hlink
        · exact ok.2.1
        · exact ok.2.2
      · rcases List.mem_cons.mp h with rfl | h2
        · exact ok.1
        · exact h2
    exact ⟨hm, good_of_word (gW_ok w0 hm)⟩
  exact va_runS (As := As) (rest := rest) ⟨C.x, C.b, C.ml, C.ow, C.ts⟩ hM (va_cwS As.length C.ts g rfl hrc.1 hrc.2 hdc (by rw [C.R]; exact hroom)) ⟨Pw.blind, callee_pre C hP hD hS⟩ rfl rfl (hl.1.trans C.N) hst (lv_room hrest) hd (by rw [C.R]; exact hn)
theorem run_SN (C : Cx κ G own cc rm nL) {Qc : Array Value → State → Outcome → State → Prop} {H : Heap} {locs : List Loc} {ls : Array Slot} {pre suf : va_W} {host : String}
    (hM : Met (kl κ) y (gC y bytes maxL ret) rmy (va_Pc As (Pw G (w f v) H.size)) Qc 0 0 (va_A (w f v) H.size)) (ok : okS y.cls y bytes maxL ret) (hlink : va_Nw (.methodLinkNest own idx y host) (ks κ)) (hrc : rmy.cells = 0 ∧ rmy.slots = 0) (hdc : y.cls ≠ "java/lang/invoke/MethodHandle" ∧ y.cls ≠ "java/lang/invoke/VarHandle" ∧ (parseMethodDescriptor y.desc).map (fun d => d.parameters.length) = some As.length) (hroom : rmy.frames + 1 ≤ rm.frames ∧ 8 + (maxL + 11) + rmy.locals ≤ rm.locals) (hn : n1 ≤ rm.cells ∧ n2 ≤ rm.slots)
    (hP : va_P (kD κ) vwCl (pre ++ (w f v ++ suf)) H) (hD : va_D (kA κ) (pre ++ (w f v ++ suf))) (hS : va_S (kA κ) (ks κ).heap H locs) (hl : lv_has ls (kN κ) lv) (hst : st = As.reverse ++ rest) (hrest : (rest.map fun v => v.category).sum ≤ 8) (hd : decode cc pc = .ok (.invokestatic idx, 3)) :
    kRun κ H locs n1 n2 (F0 (km κ) pc ls st) rest (Qc As.toArray) (va_A (w f v) H.size) := by
  have g : GoodIn gW (gC y bytes maxL ret) := fun w0 hw => by
    have hm : w0 ∈ gW := by
      rcases List.mem_cons.mp hw with rfl | h2
      · exact ok.1
      · exact h2
    exact ⟨hm, good_of_word (gW_ok w0 hm)⟩
  exact va_runSN (As := As) (rest := rest) ⟨C.x, C.b, C.ml, C.ow, C.ts⟩ hM ⟨va_cnB As.length C.ts g rfl hrc.1 hrc.2 hlink (C.ts _ ok.2.2) hdc (by rw [C.R]; exact hroom), C.ts _ ok.2.1, trivial⟩ ⟨Pw.blind, callee_pre C hP hD hS⟩ rfl rfl (hl.1.trans C.N) hst (lv_room hrest) hd (by rw [C.R]; exact hn)
/-- behind a call: the callee's part of the world put anew -/
theorem join_P (C : Cx κ G own cc rm nL) {pre suf : va_W} {W2 : FF → VV → va_W} (hW2 : ∀ f' v', pre ++ (w f' v' ++ suf) = W2 f' v') (had : ∀ f' v', (w f' v').map Prod.fst = (w f v).map Prod.fst) {H H1 : Heap} {t : State} {u : FF × VV} (hP : va_P (kD κ) vwCl (pre ++ (w f v ++ suf)) H) (hD : va_D (kA κ) (pre ++ (w f v ++ suf))) (ht : t.heap = H1) (hB : Bw G w u t) (hk : ∀ q : Nat, q < H.size → ¬ va_A (w f v) H.size q → H1[q]? = H[q]?) : va_P (kD κ) vwCl (W2 u.1 u.2) H1 ∧ va_D (kA κ) (W2 u.1 u.2) := by
  refine ⟨?_, ?_⟩
  · rw [← hW2]
    refine seg_join hP hD hk ?_
    rw [C.D, ← ht]
    exact hB
  · rw [← hW2]
    refine hD.fst ?_
    simp only [List.map_append, had]
theorem j_callVi (q : Nat) (C : Cx κ G own cc rm nL) {post : Int32 → FF → VV → Prop} {ci : Nat} {fs : List Value} {T : u_T} {N : Nat} (pre suf : va_W) (W2 : FF → VV → va_W) (hM : MetI (kl κ) y (gC y bytes maxL ret) rmy G (.ref a :: As) w f v post) (ok : okV Cn y bytes maxL ret) (hlink : Cond.methodLink own idx y ∈ gW) (hrc : rmy.cells = 0 ∧ rmy.slots = 0) (hdc : y.cls = Cn ∧ y.cls ≠ "java/lang/invoke/MethodHandle" ∧ y.cls ≠ "java/lang/invoke/VarHandle" ∧ (parseMethodDescriptor y.desc).map (fun d => d.parameters.length) = some As.length) (hroom : rmy.frames + 1 ≤ rm.frames ∧ 8 + (maxL + 11) + rmy.locals ≤ rm.locals) (hn : n1 ≤ rm.cells ∧ n2 ≤ rm.slots)
    (hws : ws = pre ++ (w f v ++ suf)) (hW2 : ∀ f' v', pre ++ (w f' v' ++ suf) = W2 f' v') (had : ∀ f' v', (w f' v').map Prod.fst = (w f v).map Prod.fst) (qr : Nat) (hrv : (w f v)[qr]? = some (a, .inr (ci, fs))) (hci : vwCl[ci]? = some (Cn, T, N)) (hst : st = As.reverse ++ .ref a :: rest) (hrest : (rest.map fun v => v.category).sum ≤ 8) (hd : decode cc pc = .ok (.invokevirtual idx, 3)) (hq : pc + 3 = q)
    (K : ∀ r f' v', post r f' v' → J κ n1 n2 (W2 f' v') q lv (.int r :: rest)) : J κ n1 n2 ws pc lv st := by
  subst hws; subst hq
  intro H locs ls hP hD hS hl
  refine va_calli (run_V C (hM H.size) ok hlink hrc hdc hroom hn hP hD hS hl qr hrv hci hst hrest hd) hS (fun q _ h => seg_A hD hS C.hA q h) (seg_A hD hS C.hA) (fun r u t H1 locs1 ht _ hp hB _ hk hS1 => ?_)
  obtain ⟨hP1, hD1⟩ := join_P C hW2 had hP hD ht hB hk
  exact K r u.1 u.2 hp H1 locs1 ls hP1 hD1 hS1 hl
theorem j_callVl (q : Nat) (C : Cx κ G own cc rm nL) {post : Int64 → FF → VV → Prop} {ci : Nat} {fs : List Value} {T : u_T} {N : Nat} (pre suf : va_W) (W2 : FF → VV → va_W) (hM : MetL (kl κ) y (gC y bytes maxL ret) rmy G (.ref a :: As) w f v post) (ok : okV Cn y bytes maxL ret) (hlink : Cond.methodLink own idx y ∈ gW) (hrc : rmy.cells = 0 ∧ rmy.slots = 0) (hdc : y.cls = Cn ∧ y.cls ≠ "java/lang/invoke/MethodHandle" ∧ y.cls ≠ "java/lang/invoke/VarHandle" ∧ (parseMethodDescriptor y.desc).map (fun d => d.parameters.length) = some As.length) (hroom : rmy.frames + 1 ≤ rm.frames ∧ 8 + (maxL + 11) + rmy.locals ≤ rm.locals) (hn : n1 ≤ rm.cells ∧ n2 ≤ rm.slots)
    (hws : ws = pre ++ (w f v ++ suf)) (hW2 : ∀ f' v', pre ++ (w f' v' ++ suf) = W2 f' v') (had : ∀ f' v', (w f' v').map Prod.fst = (w f v).map Prod.fst) (qr : Nat) (hrv : (w f v)[qr]? = some (a, .inr (ci, fs))) (hci : vwCl[ci]? = some (Cn, T, N)) (hst : st = As.reverse ++ .ref a :: rest) (hrest : (rest.map fun v => v.category).sum ≤ 8) (hd : decode cc pc = .ok (.invokevirtual idx, 3)) (hq : pc + 3 = q)
    (K : ∀ r f' v', post r f' v' → J κ n1 n2 (W2 f' v') q lv (.long r :: rest)) : J κ n1 n2 ws pc lv st := by
  subst hws; subst hq
  intro H locs ls hP hD hS hl
  refine va_calll (run_V C (hM H.size) ok hlink hrc hdc hroom hn hP hD hS hl qr hrv hci hst hrest hd) hS (fun q _ h => seg_A hD hS C.hA q h) (seg_A hD hS C.hA) (fun r u t H1 locs1 ht _ hp hB _ hk hS1 => ?_)
  obtain ⟨hP1, hD1⟩ := join_P C hW2 had hP hD ht hB hk
  exact K r u.1 u.2 hp H1 locs1 ls hP1 hD1 hS1 hl
theorem j_callVv (q : Nat) (C : Cx κ G own cc rm nL) {post : FF → VV → Prop} {ci : Nat} {fs : List Value} {T : u_T} {N : Nat} (pre suf : va_W) (W2 : FF → VV → va_W) (hM : MetV (kl κ) y (gC y bytes maxL ret) rmy G (.ref a :: As) w f v post) (ok : okV Cn y bytes maxL ret) (hlink : Cond.methodLink own idx y ∈ gW) (hrc : rmy.cells = 0 ∧ rmy.slots = 0) (hdc : y.cls = Cn ∧ y.cls ≠ "java/lang/invoke/MethodHandle" ∧ y.cls ≠ "java/lang/invoke/VarHandle" ∧ (parseMethodDescriptor y.desc).map (fun d => d.parameters.length) = some As.length) (hroom : rmy.frames + 1 ≤ rm.frames ∧ 8 + (maxL + 11) + rmy.locals ≤ rm.locals) (hn : n1 ≤ rm.cells ∧ n2 ≤ rm.slots)
    (hws : ws = pre ++ (w f v ++ suf)) (hW2 : ∀ f' v', pre ++ (w f' v' ++ suf) = W2 f' v') (had : ∀ f' v', (w f' v').map Prod.fst = (w f v).map Prod.fst) (qr : Nat) (hrv : (w f v)[qr]? = some (a, .inr (ci, fs))) (hci : vwCl[ci]? = some (Cn, T, N)) (hst : st = As.reverse ++ .ref a :: rest) (hrest : (rest.map fun v => v.category).sum ≤ 8) (hd : decode cc pc = .ok (.invokevirtual idx, 3)) (hq : pc + 3 = q)
    (K : ∀ f' v', post f' v' → J κ n1 n2 (W2 f' v') q lv rest) : J κ n1 n2 ws pc lv st := by
  subst hws; subst hq
  intro H locs ls hP hD hS hl
  refine va_callv (run_V C (hM H.size) ok hlink hrc hdc hroom hn hP hD hS hl qr hrv hci hst hrest hd) hS (fun q _ h => seg_A hD hS C.hA q h) (seg_A hD hS C.hA) (fun u t H1 locs1 ht _ hp hB _ hk hS1 => ?_)
  obtain ⟨hP1, hD1⟩ := join_P C hW2 had hP hD ht hB hk
  exact K u.1 u.2 hp H1 locs1 ls hP1 hD1 hS1 hl
theorem j_callVr (q : Nat) (C : Cx κ G own cc rm nL) {post : FF → VV → Prop} {ar ci : Nat} {fs : List Value} {T : u_T} {N : Nat} (pre suf : va_W) (W2 : FF → VV → va_W) (hM : MetR (kl κ) y (gC y bytes maxL ret) rmy G (.ref a :: As) w ar f v post) (ok : okV Cn y bytes maxL ret) (hlink : Cond.methodLink own idx y ∈ gW) (hrc : rmy.cells = 0 ∧ rmy.slots = 0) (hdc : y.cls = Cn ∧ y.cls ≠ "java/lang/invoke/MethodHandle" ∧ y.cls ≠ "java/lang/invoke/VarHandle" ∧ (parseMethodDescriptor y.desc).map (fun d => d.parameters.length) = some As.length) (hroom : rmy.frames + 1 ≤ rm.frames ∧ 8 + (maxL + 11) + rmy.locals ≤ rm.locals) (hn : n1 ≤ rm.cells ∧ n2 ≤ rm.slots)
    (hws : ws = pre ++ (w f v ++ suf)) (hW2 : ∀ f' v', pre ++ (w f' v' ++ suf) = W2 f' v') (had : ∀ f' v', (w f' v').map Prod.fst = (w f v).map Prod.fst) (qr : Nat) (hrv : (w f v)[qr]? = some (a, .inr (ci, fs))) (hci : vwCl[ci]? = some (Cn, T, N)) (hst : st = As.reverse ++ .ref a :: rest) (hrest : (rest.map fun v => v.category).sum ≤ 8) (hd : decode cc pc = .ok (.invokevirtual idx, 3)) (hq : pc + 3 = q)
    (K : ∀ f' v', post f' v' → J κ n1 n2 (W2 f' v') q lv (.ref ar :: rest)) : J κ n1 n2 ws pc lv st := by
  subst hws; subst hq
  intro H locs ls hP hD hS hl
  refine va_callr (run_V C (hM H.size) ok hlink hrc hdc hroom hn hP hD hS hl qr hrv hci hst hrest hd) hS (fun q _ h => seg_A hD hS C.hA q h) (seg_A hD hS C.hA) (fun u ra t H1 locs1 ht _ hp hB _ hk hS1 => ?_)
  obtain ⟨rfl, hB⟩ := hB
  obtain ⟨hP1, hD1⟩ := join_P C hW2 had hP hD ht hB hk
  exact K u.1 u.2 hp H1 locs1 ls hP1 hD1 hS1 hl
/-- a callee that changes nothing -/
theorem j_callVi_ro (q : Nat) (C : Cx κ G own cc rm nL) {post : Int32 → Prop} {ci : Nat} {fs : List Value} {T : u_T} {N : Nat} (pre suf : va_W) (hM : MetI (kl κ) y (gC y bytes maxL ret) rmy G (.ref a :: As) w f v (fun r f' v' => post r ∧ f' = f ∧ v' = v)) (ok : okV Cn y bytes maxL ret) (hlink : Cond.methodLink own idx y ∈ gW) (hrc : rmy.cells = 0 ∧ rmy.slots = 0) (hdc : y.cls = Cn ∧ y.cls ≠ "java/lang/invoke/MethodHandle" ∧ y.cls ≠ "java/lang/invoke/VarHandle" ∧ (parseMethodDescriptor y.desc).map (fun d => d.parameters.length) = some As.length) (hroom : rmy.frames + 1 ≤ rm.frames ∧ 8 + (maxL + 11) + rmy.locals ≤ rm.locals) (hn : n1 ≤ rm.cells ∧ n2 ≤ rm.slots)
    (hws : ws = pre ++ (w f v ++ suf)) (had : ∀ f' v', (w f' v').map Prod.fst = (w f v).map Prod.fst) (qr : Nat) (hrv : (w f v)[qr]? = some (a, .inr (ci, fs))) (hci : vwCl[ci]? = some (Cn, T, N)) (hst : st = As.reverse ++ .ref a :: rest) (hrest : (rest.map fun v => v.category).sum ≤ 8) (hd : decode cc pc = .ok (.invokevirtual idx, 3)) (hq : pc + 3 = q)
    (K : ∀ r, post r → J κ n1 n2 ws q lv (.int r :: rest)) : J κ n1 n2 ws pc lv st :=
  j_callVi q C pre suf (fun f' v' => pre ++ (w f' v' ++ suf)) hM ok hlink hrc hdc hroom hn hws (fun _ _ => rfl) had qr hrv hci hst hrest hd hq (fun r f' v' h => by
    obtain ⟨h1, e1, e2⟩ := h
    show J κ n1 n2 (pre ++ (w f' v' ++ suf)) q lv (.int r :: rest)
    rw [e1, e2, ← hws]
    exact K r h1)
/-- a static method that looks at numbers alone -/
abbrev w0 : FF → VV → va_W := fun _ _ => []
abbrev f0 : FF := fun _ _ => 0
abbrev v0 : VV := fun _ => 0
theorem j_callSi (q : Nat) (C : Cx κ G own cc rm nL) {post : Int32 → FF → VV → Prop} (pre suf : va_W) (W2 : FF → VV → va_W) (hM : MetI (kl κ) y (gC y bytes maxL ret) rmy G As w f v post) (ok : okS y.cls y bytes maxL ret) (hlink : Cond.methodLink own idx y ∈ gW) (hrc : rmy.cells = 0 ∧ rmy.slots = 0) (hdc : y.cls ≠ "java/lang/invoke/MethodHandle" ∧ y.cls ≠ "java/lang/invoke/VarHandle" ∧ (parseMethodDescriptor y.desc).map (fun d => d.parameters.length) = some As.length) (hroom : rmy.frames + 1 ≤ rm.frames ∧ 8 + (maxL + 11) + rmy.locals ≤ rm.locals) (hn : n1 ≤ rm.cells ∧ n2 ≤ rm.slots)
    (hws : ws = pre ++ (w f v ++ suf)) (hW2 : ∀ f' v', pre ++ (w f' v' ++ suf) = W2 f' v') (had : ∀ f' v', (w f' v').map Prod.fst = (w f v).map Prod.fst) (hst : st = As.reverse ++ rest) (hrest : (rest.map fun v => v.category).sum ≤ 8) (hd : decode cc pc = .ok (.invokestatic idx, 3)) (hq : pc + 3 = q)
    (K : ∀ r f' v', post r f' v' → J κ n1 n2 (W2 f' v') q lv (.int r :: rest)) : J κ n1 n2 ws pc lv st := by
  subst hws; subst hq
  intro H locs ls hP hD hS hl
  refine va_calli (run_S C (hM H.size) ok hlink hrc hdc hroom hn hP hD hS hl hst hrest hd) hS (fun q _ h => seg_A hD hS C.hA q h) (seg_A hD hS C.hA) (fun r u t H1 locs1 ht _ hp hB _ hk hS1 => ?_)
  obtain ⟨hP1, hD1⟩ := join_P C hW2 had hP hD ht hB hk
  exact K r u.1 u.2 hp H1 locs1 ls hP1 hD1 hS1 hl
theorem j_callSl (q : Nat) (C : Cx κ G own cc rm nL) {post : Int64 → FF → VV → Prop} (pre suf : va_W) (W2 : FF → VV → va_W) (hM : MetL (kl κ) y (gC y bytes maxL ret) rmy G As w f v post) (ok : okS y.cls y bytes maxL ret) (hlink : Cond.methodLink own idx y ∈ gW) (hrc : rmy.cells = 0 ∧ rmy.slots = 0) (hdc : y.cls ≠ "java/lang/invoke/MethodHandle" ∧ y.cls ≠ "java/lang/invoke/VarHandle" ∧ (parseMethodDescriptor y.desc).map (fun d => d.parameters.length) = some As.length) (hroom : rmy.frames + 1 ≤ rm.frames ∧ 8 + (maxL + 11) + rmy.locals ≤ rm.locals) (hn : n1 ≤ rm.cells ∧ n2 ≤ rm.slots)
    (hws : ws = pre ++ (w f v ++ suf)) (hW2 : ∀ f' v', pre ++ (w f' v' ++ suf) = W2 f' v') (had : ∀ f' v', (w f' v').map Prod.fst = (w f v).map Prod.fst) (hst : st = As.reverse ++ rest) (hrest : (rest.map fun v => v.category).sum ≤ 8) (hd : decode cc pc = .ok (.invokestatic idx, 3)) (hq : pc + 3 = q)
    (K : ∀ r f' v', post r f' v' → J κ n1 n2 (W2 f' v') q lv (.long r :: rest)) : J κ n1 n2 ws pc lv st := by
  subst hws; subst hq
  intro H locs ls hP hD hS hl
  refine va_calll (run_S C (hM H.size) ok hlink hrc hdc hroom hn hP hD hS hl hst hrest hd) hS (fun q _ h => seg_A hD hS C.hA q h) (seg_A hD hS C.hA) (fun r u t H1 locs1 ht _ hp hB _ hk hS1 => ?_)
  obtain ⟨hP1, hD1⟩ := join_P C hW2 had hP hD ht hB hk
  exact K r u.1 u.2 hp H1 locs1 ls hP1 hD1 hS1 hl
theorem j_callSNi (q : Nat) (C : Cx κ G own cc rm nL) {host : String} {post : Int32 → FF → VV → Prop} (pre suf : va_W) (W2 : FF → VV → va_W) (hM : MetI (kl κ) y (gC y bytes maxL ret) rmy G As w f v post) (ok : okS y.cls y bytes maxL ret) (hlink : va_Nw (.methodLinkNest own idx y host) (ks κ)) (hrc : rmy.cells = 0 ∧ rmy.slots = 0) (hdc : y.cls ≠ "java/lang/invoke/MethodHandle" ∧ y.cls ≠ "java/lang/invoke/VarHandle" ∧ (parseMethodDescriptor y.desc).map (fun d => d.parameters.length) = some As.length) (hroom : rmy.frames + 1 ≤ rm.frames ∧ 8 + (maxL + 11) + rmy.locals ≤ rm.locals) (hn : n1 ≤ rm.cells ∧ n2 ≤ rm.slots)
    (hws : ws = pre ++ (w f v ++ suf)) (hW2 : ∀ f' v', pre ++ (w f' v' ++ suf) = W2 f' v') (had : ∀ f' v', (w f' v').map Prod.fst = (w f v).map Prod.fst) (hst : st = As.reverse ++ rest) (hrest : (rest.map fun v => v.category).sum ≤ 8) (hd : decode cc pc = .ok (.invokestatic idx, 3)) (hq : pc + 3 = q)
    (K : ∀ r f' v', post r f' v' → J κ n1 n2 (W2 f' v') q lv (.int r :: rest)) : J κ n1 n2 ws pc lv st := by
  subst hws; subst hq
  intro H locs ls hP hD hS hl
  refine va_calli (run_SN C (hM H.size) ok hlink hrc hdc hroom hn hP hD hS hl hst hrest hd) hS (fun q _ h => seg_A hD hS C.hA q h) (seg_A hD hS C.hA) (fun r u t H1 locs1 ht _ hp hB _ hk hS1 => ?_)
  obtain ⟨hP1, hD1⟩ := join_P C hW2 had hP hD ht hB hk
  exact K r u.1 u.2 hp H1 locs1 ls hP1 hD1 hS1 hl
theorem j_callSi_ro (q : Nat) (C : Cx κ G own cc rm nL) {post : Int32 → Prop} (pre suf : va_W) (hM : MetI (kl κ) y (gC y bytes maxL ret) rmy G As w f v (fun r f' v' => post r ∧ f' = f ∧ v' = v)) (ok : okS y.cls y bytes maxL ret) (hlink : Cond.methodLink own idx y ∈ gW) (hrc : rmy.cells = 0 ∧ rmy.slots = 0) (hdc : y.cls ≠ "java/lang/invoke/MethodHandle" ∧ y.cls ≠ "java/lang/invoke/VarHandle" ∧ (parseMethodDescriptor y.desc).map (fun d => d.parameters.length) = some As.length) (hroom : rmy.frames + 1 ≤ rm.frames ∧ 8 + (maxL + 11) + rmy.locals ≤ rm.locals) (hn : n1 ≤ rm.cells ∧ n2 ≤ rm.slots)
    (hws : ws = pre ++ (w f v ++ suf)) (had : ∀ f' v', (w f' v').map Prod.fst = (w f v).map Prod.fst) (hst : st = As.reverse ++ rest) (hrest : (rest.map fun v => v.category).sum ≤ 8) (hd : decode cc pc = .ok (.invokestatic idx, 3)) (hq : pc + 3 = q)
    (K : ∀ r, post r → J κ n1 n2 ws q lv (.int r :: rest)) : J κ n1 n2 ws pc lv st :=
  j_callSi q C pre suf (fun f' v' => pre ++ (w f' v' ++ suf)) hM ok hlink hrc hdc hroom hn hws (fun _ _ => rfl) had hst hrest hd hq (fun r f' v' h => by
    obtain ⟨h1, e1, e2⟩ := h
    show J κ n1 n2 (pre ++ (w f' v' ++ suf)) q lv (.int r :: rest)
    rw [e1, e2, ← hws]
    exact K r h1)
end JC
/-! ===== a contract out of a walk ===== -/
def RetI (κ : Kx) (cc : ByteArray) (w : FF → VV → va_W) (post : Int32 → FF → VV → Prop) : Prop := ∀ (pc : Nat) (lv : List (Nat × Value)) (r : Int32) (f : FF) (v : VV), decode cc pc = .ok (.ireturn, 1) → post r f v → J κ 0 0 (w f v) pc lv [.int r]
def RetZ (κ : Kx) (cc : ByteArray) (w : FF → VV → va_W) (post : Int32 → FF → VV → Prop) : Prop := ∀ (pc : Nat) (lv : List (Nat × Value)) (r : Int32) (f : FF) (v : VV), decode cc pc = .ok (.ireturn, 1) → (r = 0 ∨ r = 1) → post r f v → J κ 0 0 (w f v) pc lv [.int r]
def RetL (κ : Kx) (cc : ByteArray) (w : FF → VV → va_W) (post : Int64 → FF → VV → Prop) : Prop := ∀ (pc : Nat) (lv : List (Nat × Value)) (r : Int64) (f : FF) (v : VV), decode cc pc = .ok (.lreturn, 1) → post r f v → J κ 0 0 (w f v) pc lv [.long r]
def RetV (κ : Kx) (cc : ByteArray) (w : FF → VV → va_W) (post : FF → VV → Prop) : Prop := ∀ (pc : Nat) (lv : List (Nat × Value)) (f : FF) (v : VV), decode cc pc = .ok (.return_, 1) → post f v → J κ 0 0 (w f v) pc lv []
def RetR (κ : Kx) (cc : ByteArray) (w : FF → VV → va_W) (ar : Nat) (post : FF → VV → Prop) : Prop := ∀ (pc : Nat) (lv : List (Nat × Value)) (f : FF) (v : VV), decode cc pc = .ok (.areturn, 1) → post f v → J κ 0 0 (w f v) pc lv [.ref ar]
section MT
variable {l : Launch} {y : MethodName} {rm : Room} {G : Gx} {av : List Value} {w : FF → VV → va_W} {f : FF} {v : VV} {cc : ByteArray} {maxL : Nat} {own : String}
theorem cx_of {ret : Option FieldType} {p : Program} {e : Env} {s : State} {m : MethodId} {args : Array Value} {below : List Frame} {meth : Method} {c : Code} {s₁ : State} {Q : State → Prop} (hown : y.cls = own) (B : BodyLoose p l y (headSpec (gC y cc maxL ret) rm) cc maxL ret e s m args below meth c s₁) (hml : c.maxLocals = maxL) (hP : Pw G (w f v) s.heap.size s) : Cx (p, l, e, (headSpec (gC y cc maxL ret) rm).room, s, m, args, below, meth, c, G.1, va_A (w f v) s.heap.size, maxL, Q) G own cc rm maxL := by
  have hts := atoms_spec (ws := gC y cc maxL ret) B.pre
  exact ⟨B.exec, B.bytes, hml, by rw [← hown]; exact findClass_of_methodNamed B.named, fun w hw => hts w (List.mem_cons_of_mem _ hw), hP.2.2.1, fun q h => Or.inr h, rfl, rfl, rfl, hP.2.2.2.2⟩
theorem met_i {post : Int32 → FF → VV → Prop} (hy : plainName y.cls = true) (hown : y.cls = own) (hn : (lg_sl av).length ≤ maxL) (body : ∀ κ : Kx, kl κ = l → Cx κ G own cc rm maxL → RetI κ cc w post → J κ 0 0 (w f v) 0 (lv_args 0 av) []) : MetI l y (gC y cc maxL (some .int)) rm G av w f v post := by
  intro sz
  refine Met.ofW (cc := cc) (maxL := maxL) (ret := some .int) hy rfl ?_
  intro p e s m args below meth c s₁ B hml hv
  obtain ⟨rfl, hP⟩ := hv
  have hsz := hP.1
  subst hsz
  have hl := lv_entry av (n := maxL) hn
  rw [lg_entry_eq]
  refine body (p, l, e, (headSpec (gC y cc maxL (some .int)) rm).room, s, m, av.toArray, below, meth, c, G.1, va_A (w f v) s.heap.size, maxL, _) rfl (cx_of hown B hml hP) ?_ s.heap [] _ hP.2.1 hP.2.2.2.1.self va_S.rf hl
  intro pc lv r f' v' hd hp H locs ls hP1 hD1 hS1 hl1
  exact W.iret B.exec B.bytes B.returns (fun t ht hW => ⟨⟨r, (f', v'), rfl, hp, by show va_P _ _ _ t.heap; rw [ht]; exact hP1⟩, hS1.F ht⟩) hS1.2.2 hd B.notSynchronized
theorem met_z {post : Int32 → FF → VV → Prop} (hy : plainName y.cls = true) (hown : y.cls = own) (hn : (lg_sl av).length ≤ maxL) (body : ∀ κ : Kx, kl κ = l → Cx κ G own cc rm maxL → RetZ κ cc w post → J κ 0 0 (w f v) 0 (lv_args 0 av) []) : MetI l y (gC y cc maxL (some .boolean)) rm G av w f v post := by
  intro sz
  refine Met.ofW (cc := cc) (maxL := maxL) (ret := some .boolean) hy rfl ?_
  intro p e s m args below meth c s₁ B hml hv
  obtain ⟨rfl, hP⟩ := hv
  have hsz := hP.1
  subst hsz
  have hl := lv_entry av (n := maxL) hn
  rw [lg_entry_eq]
  refine body (p, l, e, (headSpec (gC y cc maxL (some .boolean)) rm).room, s, m, av.toArray, below, meth, c, G.1, va_A (w f v) s.heap.size, maxL, _) rfl (cx_of hown B hml hP) ?_ s.heap [] _ hP.2.1 hP.2.2.2.1.self va_S.rf hl
  intro pc lv r f' v' hd h01 hp H locs ls hP1 hD1 hS1 hl1
  exact W.zret B.exec B.bytes B.returns (by rcases h01 with rfl | rfl <;> rfl) (fun t ht hW => ⟨⟨r, (f', v'), rfl, hp, by show va_P _ _ _ t.heap; rw [ht]; exact hP1⟩, hS1.F ht⟩) hS1.2.2 hd B.notSynchronized
theorem met_l {post : Int64 → FF → VV → Prop} (hy : plainName y.cls = true) (hown : y.cls = own) (hn : (lg_sl av).length ≤ maxL) (body : ∀ κ : Kx, kl κ = l → Cx κ G own cc rm maxL → RetL κ cc w post → J κ 0 0 (w f v) 0 (lv_args 0 av) []) : MetL l y (gC y cc maxL (some .long)) rm G av w f v post := by
  intro sz
  refine Met.ofW (cc := cc) (maxL := maxL) (ret := some .long) hy rfl ?_
  intro p e s m args below meth c s₁ B hml hv
  obtain ⟨rfl, hP⟩ := hv
  have hsz := hP.1
  subst hsz
  have hl := lv_entry av (n := maxL) hn
  rw [lg_entry_eq]
  refine body (p, l, e, (headSpec (gC y cc maxL (some .long)) rm).room, s, m, av.toArray, below, meth, c, G.1, va_A (w f v) s.heap.size, maxL, _) rfl (cx_of hown B hml hP) ?_ s.heap [] _ hP.2.1 hP.2.2.2.1.self va_S.rf hl
  intro pc lv r f' v' hd hp H locs ls hP1 hD1 hS1 hl1
  exact W.lret B.exec B.bytes B.returns (fun t ht hW => ⟨⟨r, (f', v'), rfl, hp, by show va_P _ _ _ t.heap; rw [ht]; exact hP1⟩, hS1.F ht⟩) hS1.2.2 hd B.notSynchronized
theorem met_v {post : FF → VV → Prop} (hy : plainName y.cls = true) (hown : y.cls = own) (hn : (lg_sl av).length ≤ maxL) (body : ∀ κ : Kx, kl κ = l → Cx κ G own cc rm maxL → RetV κ cc w post → J κ 0 0 (w f v) 0 (lv_args 0 av) []) : MetV l y (gC y cc maxL none) rm G av w f v post := by
  intro sz
  refine Met.ofW (cc := cc) (maxL := maxL) (ret := none) hy rfl ?_
  intro p e s m args below meth c s₁ B hml hv
  obtain ⟨rfl, hP⟩ := hv
  have hsz := hP.1
  subst hsz
  have hl := lv_entry av (n := maxL) hn
  rw [lg_entry_eq]
  refine body (p, l, e, (headSpec (gC y cc maxL none) rm).room, s, m, av.toArray, below, meth, c, G.1, va_A (w f v) s.heap.size, maxL, _) rfl (cx_of hown B hml hP) ?_ s.heap [] _ hP.2.1 hP.2.2.2.1.self va_S.rf hl
  intro pc lv f' v' hd hp H locs ls hP1 hD1 hS1 hl1
  exact W.vret B.exec B.bytes B.returns (fun t ht hW => ⟨⟨(f', v'), rfl, hp, by show va_P _ _ _ t.heap; rw [ht]; exact hP1⟩, hS1.F ht⟩) hS1.2.2 hd B.notSynchronized
theorem met_r {post : FF → VV → Prop} {ar : Nat} {rn : String} (hy : plainName y.cls = true) (hown : y.cls = own) (hn : (lg_sl av).length ≤ maxL) (body : ∀ κ : Kx, kl κ = l → Cx κ G own cc rm maxL → RetR κ cc w ar post → J κ 0 0 (w f v) 0 (lv_args 0 av) []) : MetR l y (gC y cc maxL (some (.object rn))) rm G av w ar f v post := by
  intro sz
  refine Met.ofW (cc := cc) (maxL := maxL) (ret := some (.object rn)) hy rfl ?_
  intro p e s m args below meth c s₁ B hml hv
  obtain ⟨rfl, hP⟩ := hv
  have hsz := hP.1
  subst hsz
  have hl := lv_entry av (n := maxL) hn
  rw [lg_entry_eq]
  refine body (p, l, e, (headSpec (gC y cc maxL (some (.object rn))) rm).room, s, m, av.toArray, below, meth, c, G.1, va_A (w f v) s.heap.size, maxL, _) rfl (cx_of hown B hml hP) ?_ s.heap [] _ hP.2.1 hP.2.2.2.1.self va_S.rf hl
  intro pc lv f' v' hd hp H locs ls hP1 hD1 hS1 hl1
  exact W.aret B.exec B.bytes B.returns (Or.inl ⟨rn, rfl⟩) (Or.inr ⟨ar, rfl⟩) (fun t ht hW => ⟨⟨(f', v'), ar, rfl, hp, rfl, by show va_P _ _ _ t.heap; rw [ht]; exact hP1⟩, hS1.F ht⟩) hS1.2.2 hd B.notSynchronized
end MT
