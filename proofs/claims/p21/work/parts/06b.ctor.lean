/-! ===== constructors ===== -/
def adr (l : List Nat) : Nat → Nat := fun j => l.getD j 0
theorem perm_idx {α : Type} {L L' : List α} (idx : List Nat) (hp : idx.Perm (List.range L.length)) (hm : idx.map (fun i => L[i]?) = L'.map some) : L.Perm L' := by
  have h1 : (idx.map (fun i => L[i]?)).Perm ((List.range L.length).map (fun i => L[i]?)) := hp.map _
  have h2 : (List.range L.length).map (fun i => L[i]?) = L.map some := by
    refine List.ext_getElem? (fun i => ?_)
    rw [List.getElem?_map, List.getElem?_map]
    by_cases hi : i < L.length
    · rw [List.getElem?_range hi, List.getElem?_eq_getElem hi]
      simp [List.getElem?_eq_getElem hi]
    · rw [List.getElem?_eq_none (by simpa using hi), List.getElem?_eq_none (by simpa using hi)]
      rfl
  rw [hm, h2] at h1
  have h3 := h1.symm.filterMap id
  simpa [List.filterMap_map] using h3
section JK
variable {κ : Kx} {G : Gx} {own : String} {cc : ByteArray} {rm : Room} {nL n1 n2 : Nat} {ws ws' : va_W} {pc : Nat} {lv : List (Nat × Value)} {st : List Value}
theorem j_objInit (q : Nat) (C : Cx κ G own cc rm nL) {idx a : Nat} (hlink : Cond.methodLink own idx objectInit ∈ gW) (hd : decode cc pc = .ok (.invokespecial idx, 3)) (hq : pc + 3 = q) (hfr : 1 ≤ rm.frames) (hlo : (st.map fun v => v.category).sum + 12 ≤ rm.locals) (K : J κ n1 n2 ws q lv st) : J κ n1 n2 ws pc lv (.ref a :: st) := by
  subst hq
  exact fun H locs ls hP hD hS h => W.objInit C.x C.b C.ow (C.ts _ hlink) (C.ts _ z_objinst) (C.ts _ z_objcode) rfl (h.1.trans (C.N.trans C.ml.symm)) rfl hd (by rw [C.R]; exact hfr) (by rw [C.R]; show 2 * 0 + (st.map fun v => v.category).sum + 12 ≤ rm.locals; omega) (K H locs ls hP hD hS h)
theorem j_newa (q : Nat) (C : Cx κ G own cc rm nL) {n : Int32} (N : Nat) (hn : ¬ n < 0) (hN : n.toNatClampNeg = N) (hbb : N * 4 ≤ 536870912) (hc : n1 + 1 ≤ rm.cells ∧ n2 + N ≤ rm.slots) (hd : decode cc pc = .ok (.newarray .int, 2)) (hq : pc + 2 = q) (K : ∀ a : Nat, J κ (n1 + 1) (n2 + N) (ws ++ [(a, .inl (G.2.1, N, .inl (fun _ => 0)))]) q lv (.ref a :: st)) : J κ n1 n2 ws pc lv (.int n :: st) := by
  subst hq
  intro H locs ls hP hD hS h
  refine va_newa (atype := .int) C.x C.b (C.ts _ z_arrI) (ty := .int) rfl C.K hP hD hS C.hA (a0 := (N, .inl (fun _ => 0))) (fun _ => rfl) hn hN hbb (by rw [C.R]; exact hc.1) (by rw [C.R]; exact hc.2) hd (fun a cA H1 hK1 hP1 hD1 hS1 => ?_)
  have e1 : (ks κ).vm.findClass ("[" ++ FieldType.int.toString) = some cA := (hK1.2 2 (cA, .int) rfl).2
  have e2 : (ks κ).vm.findClass ("[" ++ FieldType.int.toString) = some G.2.1 := (C.K.2 0 (G.2.1, .int) rfl).2
  have e3 : cA = G.2.1 := Option.some.inj (e1.symm.trans e2)
  subst e3
  exact K a H1 locs ls hP1 hD1 hS1 h
theorem j_newq (q : Nat) (C : Cx κ G own cc rm nL) {n : Int32} {idx : Nat} (N : Nat) (hcl : Cond.classLink own idx RX2 ∈ gW) (hn : ¬ n < 0) (hN : n.toNatClampNeg = N) (hbb : N * 4 ≤ 536870912) (hc : n1 + 1 ≤ rm.cells ∧ n2 + N ≤ rm.slots) (hd : decode cc pc = .ok (.anewarray idx, 3)) (hq : pc + 3 = q) (K : ∀ a : Nat, J κ (n1 + 1) (n2 + N) (ws ++ [(a, .inl (G.2.2.1, N, .inr (.inr (.inr (.inr (fun _ => none))))))]) q lv (.ref a :: st)) : J κ n1 n2 ws pc lv (.int n :: st) := by
  subst hq
  intro H locs ls hP hD hS h
  refine va_newq C.x C.b C.ow (C.ts _ hcl) C.E.2.2.2.2.2.2.2.2.2.2 C.K hP hD hS C.hA hn hN hbb (by rw [C.R]; exact hc.1) (by rw [C.R]; exact hc.2) hd (fun a cA H1 hK1 hP1 hD1 hS1 => ?_)
  obtain ⟨-, -, -, -, -, e1⟩ := (hK1.2 2 (cA, .object RX2) rfl).2
  obtain ⟨-, -, -, -, -, e2⟩ := (C.K.2 1 (G.2.2.1, .object RX2) rfl).2
  have e3 : cA = G.2.2.1 := Option.some.inj (e1.symm.trans e2)
  subst e3
  exact K a H1 locs ls hP1 hD1 hS1 h
theorem j_new (q : Nat) (C : Cx κ G own cc rm nL) {Cn : String} {T : u_T} {N ci idx : Nat} (hin : ∀ w ∈ u_ws Cn T N, w ∈ gW) (ty0 : Nat → FieldType) (hty : ∀ k, k < N → parseFieldDescriptor (T k).2.2.1 = some (ty0 k)) (hcl : Cond.classLink own idx Cn ∈ gW) (hinst : Cond.instantiable Cn N ∈ gW) (hini : Cond.initialized Cn ∈ gW) (hc : vwCl[ci]? = some (Cn, T, N)) (fs : List Value) (hfs : ∀ j, j < N → defaultValue (ty0 j) = vp_V fs j) (hr : n1 + 1 ≤ rm.cells ∧ n2 + N ≤ rm.slots) (hd : decode cc pc = .ok (.new idx, 3)) (hq : pc + 3 = q) (K : ∀ a : Nat, J κ (n1 + 1) (n2 + N) (ws ++ [(a, .inr (ci, fs))]) q lv (.ref a :: st)) : J κ n1 n2 ws pc lv st := by
  subst hq
  intro H locs ls hP hD hS h
  exact va_new C.x C.b C.ts hin ty0 hty C.ow (C.ts _ hcl) (C.ts _ hinst) (C.ts _ hini) C.K hP hD hS C.hA hc hfs (by rw [C.R]; exact hr.1) (by rw [C.R]; exact hr.2) hd (fun a H1 hP1 hD1 hS1 => K a H1 locs ls hP1 hD1 hS1 h)
theorem j_putF (q : Nat) (C : Cx κ G own cc rm nL) (hi2 : (kt κ).name = "<init>") {Cn : String} {T : u_T} {N ci idx : Nat} (hin : ∀ w ∈ u_ws Cn T N, w ∈ gW) (ty0 : Nat → FieldType) (hty : ∀ k, k < N → parseFieldDescriptor (T k).2.2.1 = some (ty0 k)) (hnm : ∀ a, a < N → ∀ b, b < N → a ≠ b → (T a).2.1 ≠ (T b).2.1) (q0 : Nat) {a : Nat} {fs : List Value} (he : ws[q0]? = some (a, .inr (ci, fs))) (hc : vwCl[ci]? = some (Cn, T, N)) (k : Nat) (hk : k < N) (hlink : Cond.fieldLink own idx (T k).1 (T k).2.1 (T k).2.2.1 ∈ gW) (hfin : (T k).2.2.2 = true) (hdecl : (T k).1 = own) {b : Nat} (hn : narrow (ty0 k) (.ref b) = .ref b) (hfit : fits (ty0 k) (.ref b) = true) (hl : k < fs.length) (hd : decode cc pc = .ok (.putfield idx, 3)) (hq : pc + 3 = q) (hset : ws.set q0 (a, .inr (ci, fs.set k (.ref b))) = ws') (K : J κ n1 n2 ws' q lv st) : J κ n1 n2 ws pc lv (.ref b :: .ref a :: st) := by
  subst hq
  subst hset
  exact fun H locs ls hP hD hS h => va_putF C.x C.b C.ts hin ty0 hty hnm C.ow C.K hP hD hS q0 he hc k hk (C.ts _ hlink) (fun _ h9 => h9) hfin hi2 hdecl (hty k hk) hn hfit hl hd (fun H1 locs1 hP1 hD1 hS1 => K H1 locs1 ls hP1 hD1 hS1 h)
theorem j_aast (q : Nat) (C : Cx κ G own cc rm nL) (q0 qk : Nat) {a n b : Nat} {vs : List Value} {f : Nat → Option Nat} (ha : ws[q0]? = some (a, .inl (G.2.2.1, n, .inr (.inr (.inr (.inr f)))))) (hv : ws[qk]? = some (b, .inr (2, vs))) {i : Int32} (hin : vp_in i n) (hd : decode cc pc = .ok (.aastore, 1)) (hq : pc + 1 = q) (hset : ws.set q0 (a, .inl (G.2.2.1, n, .inr (.inr (.inr (.inr (va_up f i.toNatClampNeg (some b))))))) = ws') (K : J κ n1 n2 ws' q lv st) : J κ n1 n2 ws pc lv (.ref b :: .int i :: .ref a :: st) := by
  subst hq
  subst hset
  exact fun H locs ls hP hD hS h => va_astq (r := (RX2, TX2, 3)) C.x C.b C.K hP hD hS q0 1 qk 2 ha rfl hv rfl hin hd (fun H1 locs1 hP1 hD1 hS1 => K H1 locs1 ls hP1 hD1 hS1 h)
theorem J.refs {pre suf : va_W} {a n : Nat} {c : ClassId} {f f' : Nat → Option Nat} (h : ∀ j, j < n → f j = f' j) (K : J κ n1 n2 (pre ++ ((a, .inl (c, n, .inr (.inr (.inr (.inr f'))))) :: suf)) pc lv st) : J κ n1 n2 (pre ++ ((a, .inl (c, n, .inr (.inr (.inr (.inr f))))) :: suf)) pc lv st := by
  intro H locs ls hP hD hS hl
  have e : vp_cell c (n, .inr (.inr (.inr (.inr f)))) = vp_cell c (n, .inr (.inr (.inr (.inr f')))) := by
    rw [vp_cell_q, vp_cell_q]
    have e2 : (fun j : Fin n => va_rf (f j.val)) = fun j : Fin n => va_rf (f' j.val) := by
      funext j
      rw [h j.val j.isLt]
    simp only [arrV, e2]
  refine K H locs ls (fun k q hk => ?_) (hD.fst (by simp)) hS hl
  have mem := List.mem_of_getElem? hk
  have all : ∀ q ∈ pre ++ ((a, .inl (c, n, .inr (.inr (.inr (.inr f))))) :: suf), va_at (kD κ) vwCl q H := fun q hq => by
    obtain ⟨i, hi⟩ := List.getElem?_of_mem hq
    exact hP i q hi
  rcases List.mem_append.mp mem with m | m
  · exact all q (List.mem_append_left _ m)
  · rcases List.mem_cons.mp m with rfl | m
    · have := all (a, .inl (c, n, .inr (.inr (.inr (.inr f))))) (List.mem_append_right _ List.mem_cons_self)
      show H[a]? = some (vp_cell c (n, .inr (.inr (.inr (.inr f')))))
      rw [← e]
      exact this
    · exact all q (List.mem_append_right _ (List.mem_cons_of_mem _ m))
end JK
/-- a constructor's contract: out of a new object all that it makes -/
def MetC (l : Launch) (y : MethodName) (wy : List Cond) (rm : Room) (G : Gx) (a : Nat) (e0 : va_E) (wf : (Nat → Nat) → va_W) (mc ms : Nat) : Prop :=
  ∀ sz : Nat, Met l y wy rm (va_Pc [.ref a] (Pw G [(a, e0)] sz)) (va_Qv (fun (u : Nat → Nat) => u 0 = a) (fun u t => va_P G.1 vwCl (wf u) t.heap ∧ va_D (va_A [(a, e0)] sz) (wf u)) (va_A [(a, e0)] sz)) mc ms (va_A [(a, e0)] sz)
def RetC (κ : Kx) (cc : ByteArray) (a : Nat) (wf : (Nat → Nat) → va_W) (mc ms : Nat) : Prop := ∀ (pc : Nat) (lv : List (Nat × Value)) (u : Nat → Nat), decode cc pc = .ok (.return_, 1) → u 0 = a → J κ mc ms (wf u) pc lv []
theorem met_c {l : Launch} {y : MethodName} {rm : Room} {G : Gx} {a : Nat} {e0 : va_E} {wf : (Nat → Nat) → va_W} {mc ms : Nat} {cc : ByteArray} {maxL : Nat} {own : String} (hy : plainName y.cls = true) (hown : y.cls = own) (hn : 1 ≤ maxL) (hnm : y.name = "<init>") (body : ∀ κ : Kx, kl κ = l → Cx κ G own cc rm maxL → (kt κ).name = "<init>" → RetC κ cc a wf mc ms → J κ 0 0 [(a, e0)] 0 [(0, .ref a)] []) : MetC l y (gC y cc maxL none) rm G a e0 wf mc ms := by
  intro sz
  refine Met.ofW (cc := cc) (maxL := maxL) (ret := none) hy rfl ?_
  intro p e s m args below meth c s₁ B hml hv
  obtain ⟨rfl, hP⟩ := hv
  have hsz := hP.1
  subst hsz
  have hl := lv_entry [.ref a] (n := maxL) hn
  rw [lg_entry_eq]
  refine body (p, l, e, (headSpec (gC y cc maxL none) rm).room, s, m, #[.ref a], below, meth, c, G.1, va_A [(a, e0)] s.heap.size, maxL, _) rfl (cx_of (w := fun _ _ => [(a, e0)]) (f := f0) (v := v0) hown B hml hP) (hnm ▸ (name_of_methodNamed B.named B.method).1) ?_ s.heap [] _ hP.2.1 hP.2.2.2.1.self va_S.rf hl
  intro pc lv u hd hu H locs ls hP1 hD1 hS1 hl1
  exact W.vret B.exec B.bytes B.returns (fun t ht hW => ⟨⟨u, rfl, hu, by rw [ht]; exact hP1, hD1⟩, hS1.F ht⟩) hS1.2.2 hd B.notSynchronized
section JN
variable {κ : Kx} {G : Gx} {own : String} {cc : ByteArray} {rm : Room} {nL n1 n2 : Nat} {pc : Nat} {lv : List (Nat × Value)} {rest : List Value} {y : MethodName} {bytes : ByteArray} {maxL idx : Nat} {rmy : Room} {a : Nat} {e0 : va_E} {wf : (Nat → Nat) → va_W} {mc ms : Nat} {pre : va_W}
theorem join_C (C : Cx κ G own cc rm nL) {H H1 : Heap} {locs : List Loc} {t : State} {u : Nat → Nat} (hP : va_P (kD κ) vwCl (pre ++ ([(a, e0)] ++ [])) H) (hD : va_D (kA κ) (pre ++ ([(a, e0)] ++ []))) (hS : va_S (kA κ) (ks κ).heap H locs) (ht : t.heap = H1) (hB : va_P G.1 vwCl (wf u) t.heap ∧ va_D (va_A [(a, e0)] H.size) (wf u)) (hk : ∀ q : Nat, q < H.size → ¬ va_A [(a, e0)] H.size q → H1[q]? = H[q]?) : va_P (kD κ) vwCl (pre ++ wf u) H1 ∧ va_D (kA κ) (pre ++ wf u) := by
  have hP1 : va_P (kD κ) vwCl (wf u) H1 := by rw [C.D, ← ht]; exact hB.1
  refine ⟨?_, ?_⟩
  · have := seg_join (suf := []) hP hD hk hP1
    rw [List.append_nil] at this
    exact this
  · have hpre : va_D (kA κ) pre := ⟨fun i j x y hi hj hxy => hD.1 i j x y (by rw [List.getElem?_append_left (List.getElem?_eq_some_iff.mp hi).1]; exact hi) (by rw [List.getElem?_append_left (List.getElem?_eq_some_iff.mp hj).1]; exact hj) hxy, fun k q hk2 => hD.2 k q (by rw [List.getElem?_append_left (List.getElem?_eq_some_iff.mp hk2).1]; exact hk2)⟩
    refine va_D.app hpre (hB.2.weaken (fun k q _ h => seg_A hD hS C.hA q.1 h)) (fun i j x y hi hj hxy => ?_)
    have hil := (List.getElem?_eq_some_iff.mp hi).1
    have hi2 : (pre ++ ([(a, e0)] ++ []))[i]? = some x := by rw [List.getElem?_append_left hil]; exact hi
    have hxl := (hP i x hi2).lt
    have hyA := hB.2.2 j y hj
    rw [← hxy] at hyA
    rcases hyA with ⟨k, e, h⟩ | h
    · have hk0 := (List.getElem?_eq_some_iff.mp h).1
      have := hD.1 i _ x (x.1, e) hi2 (seg_at (suf := []) h) rfl
      omega
    · omega
theorem callee_preC (C : Cx κ G own cc rm nL) {H : Heap} {locs : List Loc} (hP : va_P (kD κ) vwCl (pre ++ ([(a, e0)] ++ [])) H) (hD : va_D (kA κ) (pre ++ ([(a, e0)] ++ []))) (hS : va_S (kA κ) (ks κ).heap H locs) : ∀ U : State, U.heap = H → (ks κ).WarmedH U.vm → va_Pc [.ref a] (Pw G [(a, e0)] H.size) ([.ref a] : List Value).toArray U :=
  callee_pre (w := fun _ _ => [(a, e0)]) (f := f0) (v := v0) C hP hD hS
theorem j_callIN (q : Nat) (C : Cx κ G own cc rm nL) {host : String} {ws : va_W} (hM : MetC (kl κ) y (gC y bytes maxL none) rmy G a e0 wf mc ms) (ok : okI y.cls y bytes maxL none) (hlink : va_Nw (.methodLinkNest own idx y host) (ks κ)) (hrc : rmy.cells = mc ∧ rmy.slots = ms) (hnm : y.name = "<init>") (hdc : y.cls ≠ "java/lang/invoke/MethodHandle" ∧ y.cls ≠ "java/lang/invoke/VarHandle" ∧ (parseMethodDescriptor y.desc).map (fun d => d.parameters.length) = some 0) (hroom : rmy.frames + 1 ≤ rm.frames ∧ 8 + (maxL + 11) + rmy.locals ≤ rm.locals) (hn : n1 + mc ≤ rm.cells ∧ n2 + ms ≤ rm.slots) (hws : ws = pre ++ ([(a, e0)] ++ [])) (hrest : (rest.map fun v => v.category).sum ≤ 8) (hd : decode cc pc = .ok (.invokespecial idx, 3)) (hq : pc + 3 = q)
    (K : ∀ u : Nat → Nat, u 0 = a → J κ (n1 + mc) (n2 + ms) (pre ++ wf u) q lv rest) : J κ n1 n2 ws pc lv (.ref a :: rest) := by
  subst hws; subst hq
  intro H locs ls hP hD hS hl
  have g : GoodIn gW (gC y bytes maxL none) := fun w0 hw => by
    have hm : w0 ∈ gW := by
      rcases List.mem_cons.mp hw with rfl | h2
      · exact ok.1
      · exact h2
    exact ⟨hm, good_of_word (gW_ok w0 hm)⟩
  refine va_callv (va_runIN (As := []) (rest := rest) ⟨C.x, C.b, C.ml, C.ow, C.ts⟩ (hM H.size) ⟨va_cnB 0 C.ts g rfl hrc.1 hrc.2 hlink (C.ts _ ok.2.2) hdc (by rw [C.R]; exact hroom), hnm, C.ts _ ok.2.1⟩ ⟨Pw.blind, callee_preC C hP hD hS⟩ rfl rfl (hl.1.trans C.N) rfl (lv_room hrest) hd (by rw [C.R]; exact hn)) hS (fun q _ h => seg_A hD hS C.hA q h) (seg_A hD hS C.hA) (fun u t H1 locs1 ht _ hp hB _ hk hS1 => ?_)
  obtain ⟨hP1, hD1⟩ := join_C C hP hD hS ht hB hk
  exact K u hp H1 locs1 ls hP1 hD1 hS1 hl
theorem j_callI (q : Nat) (C : Cx κ G own cc rm nL) {ws : va_W} (hM : MetC (kl κ) y (gC y bytes maxL none) rmy G a e0 wf mc ms) (ok : okI y.cls y bytes maxL none) (hlink : Cond.methodLink own idx y ∈ gW) (hrc : rmy.cells = mc ∧ rmy.slots = ms) (hnm : y.name = "<init>") (hdc : y.cls ≠ "java/lang/invoke/MethodHandle" ∧ y.cls ≠ "java/lang/invoke/VarHandle" ∧ (parseMethodDescriptor y.desc).map (fun d => d.parameters.length) = some 0) (hroom : rmy.frames + 1 ≤ rm.frames ∧ 8 + (maxL + 11) + rmy.locals ≤ rm.locals) (hn : n1 + mc ≤ rm.cells ∧ n2 + ms ≤ rm.slots) (hws : ws = pre ++ ([(a, e0)] ++ [])) (hrest : (rest.map fun v => v.category).sum ≤ 8) (hd : decode cc pc = .ok (.invokespecial idx, 3)) (hq : pc + 3 = q)
    (K : ∀ u : Nat → Nat, u 0 = a → J κ (n1 + mc) (n2 + ms) (pre ++ wf u) q lv rest) : J κ n1 n2 ws pc lv (.ref a :: rest) := by
  subst hws; subst hq
  intro H locs ls hP hD hS hl
  have g : GoodIn gW (gC y bytes maxL none) := fun w0 hw => by
    have hm : w0 ∈ gW := by
      rcases List.mem_cons.mp hw with rfl | h2
      · exact ok.1
      · exact h2
    exact ⟨hm, good_of_word (gW_ok w0 hm)⟩
  refine va_callv (va_runI (As := []) (rest := rest) ⟨C.x, C.b, C.ml, C.ow, C.ts⟩ (hM H.size) (cwI 0 C.ts g rfl hrc.1 hrc.2 (C.ts _ ok.2.2) (C.ts _ hlink) (C.ts _ ok.2.1) hnm hdc (by rw [C.R]; exact hroom)) ⟨Pw.blind, callee_preC C hP hD hS⟩ rfl rfl (hl.1.trans C.N) rfl (lv_room hrest) hd (by rw [C.R]; exact hn)) hS (fun q _ h => seg_A hD hS C.hA q h) (seg_A hD hS C.hA) (fun u t H1 locs1 ht _ hp hB _ hk hS1 => ?_)
  obtain ⟨hP1, hD1⟩ := join_C C hP hD hS ht hB hk
  exact K u hp H1 locs1 ls hP1 hD1 hS1 hl
end JN
