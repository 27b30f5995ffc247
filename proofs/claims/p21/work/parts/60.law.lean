-- ===== end of PART A; then your names; then what follows =====
/-! THE CLAIM OUT OF ONE WALK OF THE LAW'S BODY. Your part is whole_start (and what it stands on); all else here is the same for every law, but numbers. -/
def R_law : String := "MutantRowsLaw"
def lw_P (b : Addr) (xs : List Int32) (args : Array Value) (s : State) : Prop := args = #[.ref b] ∧ s.IntsAt b xs ∧ xs.length ≤ 3072 ∧ (Jvm.Cond.and given_1 narrow_1).before args s = true
def lw_Q (_ : Array Value) (s : State) (o : Outcome) (t : State) : Prop := o = .returned (some (.int 1)) ∧ Framed s o t [] 600000 7302250
def lw_Z (below : List Frame) (a : Array Value) (s : State) : State → Prop := fun t => ∃ o, t.status = .running ∧ Ended t below o ∧ lw_Q a s o t
/-- the law's own end, with 1 on the stack, nothing written that was there before, its room as the claim has it -/
theorem lw_ret {p : Program} {l : Launch} {e : Env} {s : State} {m : MethodId} {below : List Frame} {meth : Method} {c : Code} {b : Nat} (hx : p.tables.exec = Jvm.exec) (hb : c.code = code) (hr : meth.sig.returnType = ret) (hlocks : meth.locks = false) {pc : Nat} {H : Heap} {ls : Array Slot} (hdg : decode code pc = .ok (.ireturn, 1)) : W p l e room_1 s m #[Value.ref b] below meth c H [] 600000 7302250 (lw_Z below #[Value.ref b] s) (F0 m pc ls [.int 1]) := by
  intro T hT X
  obtain ⟨fs, hret, hrun, hended, hW, hframe⟩ := X.leave (v := some (.int 1)) (hlocks := hlocks) (fun h => by rw [hr] at h; cases h)
  have hmeth' : T.vm.method? m = some meth := X.method'
  refine ⟨T.setFrames fs, ?_, .returned (some (.int 1)), hrun, hended, rfl, ⟨_, rfl⟩, hW, hframe⟩
  jvm_step X.here [X.here.top, hx, hb, hdg, hmeth', hr, ret, narrow_b1]
  (try refine ⟨rfl, ?_⟩); (try refine ⟨rfl, ?_⟩)
  first | (intro acts; rw [hret _ acts rfl rfl rfl]) | rw [hret _ _ rfl rfl rfl]
  exact Steps.refl _
/-- what holds at the law's entry: the machine, the code, the tables' words (any of lw_tbl by 'hts w (by decide +kernel)'), the script of L ints xs at the cell b, what the Statement gives of the start (any of its parts by flat_of_before) -/
def lw_At (p : Program) (s : State) (m : MethodId) (meth : Method) (c : Code) (b L : Nat) (xs : Nat → Int32) : Prop :=
  p.tables.exec = Jvm.exec ∧ c.code = code ∧ meth.sig.returnType = ret ∧ c.maxLocals = 4 ∧ s.vm.findClass R_law = some m.cls ∧ (∀ w ∈ lw_tbl, w.before #[Value.ref b] s = true) ∧ va_X b L xs s s.heap ∧ b < s.heap.size ∧ meth.locks = false ∧ (Jvm.Cond.and given_1 narrow_1).before #[Value.ref b] s = true
theorem fa_lt0 (a b : Int32) : a < b ↔ a.toInt < b.toInt := Int32.lt_iff_toInt_lt
section LJ
variable {κ : Kx} {G : Gx} {own : String} {cc : ByteArray} {rm : Room} {nL n1 n2 : Nat} {ws : va_W} {pc : Nat} {lv : List (Nat × Value)} {st : List Value} {b L : Nat} {xs : Nat → Int32}
theorem j_slen (q : Nat) (C : Cx κ G own cc rm nL) (hX : va_X b L xs (ks κ) (ks κ).heap) (hbl : b < (ks κ).heap.size) (hbA : ¬ kA κ b) (hd : decode cc pc = .ok (.arraylength, 1)) (hq : pc + 1 = q) (K : J κ n1 n2 ws q lv (.int (Int32.ofNat L) :: st)) : J κ n1 n2 ws pc lv (.ref b :: st) := by
  subst hq
  exact fun H locs ls hP hD hS h => va_slen C.x C.b hX hbl hbA hS hd (K H locs ls hP hD hS h)
theorem j_sld (q : Nat) (C : Cx κ G own cc rm nL) (hX : va_X b L xs (ks κ) (ks κ).heap) (hbl : b < (ks κ).heap.size) (hbA : ¬ kA κ b) {i : Int32} (hin : vp_in i L) (hd : decode cc pc = .ok (.iaload, 1)) (hq : pc + 1 = q) (K : J κ n1 n2 ws q lv (.int (xs i.toNatClampNeg) :: st)) : J κ n1 n2 ws pc lv (.int i :: .ref b :: st) := by
  subst hq
  exact fun H locs ls hP hD hS h => va_sld C.x C.b hX hbl hbA hS hin hd (K H locs ls hP hD hS h)
end LJ
abbrev RelT : Type := FF → VV → FF → VV → Prop
def Op0 (E : Int32 → Int32 → Prop) (Rel : RelT) : Prop := ∀ (a1 a2 a3 a4 : Int32) (f : FF) (v : VV) (g : FF) (u : VV), Rel f v g u → Q_X4_program a1 a2 a3 a4 f v (fun r f1 v1 => Q_X5_program a1 a2 a3 a4 g u (fun r' g1 u1 => E r r' ∧ Rel f1 v1 g1 u1))
def Op1 (E : Int32 → Int32 → Prop) (Rel : RelT) : Prop := ∀ (a1 a2 : Int32) (f : FF) (v : VV) (g : FF) (u : VV), Rel f v g u → Q_X4_ofStep a1 a2 f v (fun r => Q_X5_ofStep a1 a2 g u (fun r' => E r r' ∧ Rel f v g u))
def Op2 (E : Int32 → Int32 → Prop) (Rel : RelT) : Prop := ∀ (a1 a2 : Int32) (f : FF) (v : VV) (g : FF) (u : VV), Rel f v g u → Q_X4_ofTest a1 a2 f v (fun r f1 v1 => Q_X5_ofTest a1 a2 g u (fun r' g1 u1 => E r r' ∧ Rel f1 v1 g1 u1))
def Op3 (E : Int32 → Int32 → Prop) (Rel : RelT) : Prop := ∀ (a1 a2 : Int32) (f : FF) (v : VV) (g : FF) (u : VV), Rel f v g u → Q_X4_output a1 a2 f v (fun r f1 v1 => Q_X5_output a1 a2 g u (fun r' g1 u1 => E r r' ∧ Rel f1 v1 g1 u1))
def Op4 (E : Int32 → Int32 → Prop) (Rel : RelT) : Prop := ∀ (a1 a2 : Int32) (f : FF) (v : VV) (g : FF) (u : VV), Rel f v g u → Q_X4_way a1 a2 f v (fun r f1 v1 => Q_X5_way a1 a2 g u (fun r' g1 u1 => E r r' ∧ Rel f1 v1 g1 u1))
def Op5 (E : Int32 → Int32 → Prop) (Rel : RelT) : Prop := ∀ (a1 a2 : Int32) (f : FF) (v : VV) (g : FF) (u : VV), Rel f v g u → Q_X4_time a1 a2 f v (fun r f1 v1 => Q_X5_time a1 a2 g u (fun r' g1 u1 => E r r' ∧ Rel f1 v1 g1 u1))
def Op6 (E : Int32 → Int32 → Prop) (Rel : RelT) : Prop := ∀ (a1 a2 a3 : Int32) (f : FF) (v : VV) (g : FF) (u : VV), Rel f v g u → Q_X4_aim a1 a2 a3 f v (fun r f1 v1 => Q_X5_aim a1 a2 a3 g u (fun r' g1 u1 => E r r' ∧ Rel f1 v1 g1 u1))
def Op7 (E : Int32 → Int32 → Prop) (Rel : RelT) : Prop := ∀ (a1 a2 : Int32) (f : FF) (v : VV) (g : FF) (u : VV), Rel f v g u → Q_X4_ofMutant a1 a2 f v (fun r f1 v1 => Q_X5_ofMutant a1 a2 g u (fun r' g1 u1 => E r r' ∧ Rel f1 v1 g1 u1))
def Op8 (E : Int32 → Int32 → Prop) (Rel : RelT) : Prop := ∀ (a1 a2 : Int32) (f : FF) (v : VV) (g : FF) (u : VV), Rel f v g u → Q_X4_state a1 a2 f v (fun r f1 v1 => Q_X5_state a1 a2 g u (fun r' g1 u1 => E r r' ∧ Rel f1 v1 g1 u1))
def Op9 (E : Int32 → Int32 → Prop) (Rel : RelT) : Prop := ∀ (a1 a2 : Int32) (f : FF) (v : VV) (g : FF) (u : VV), Rel f v g u → Q_X4_subsumes a1 a2 f v (fun r f1 v1 => Q_X5_subsumes a1 a2 g u (fun r' g1 u1 => E r r' ∧ Rel f1 v1 g1 u1))
def Op10 (E : Int32 → Int32 → Prop) (Rel : RelT) : Prop := ∀ (f : FF) (v : VV) (g : FF) (u : VV), Rel f v g u → Q_X4_hardest f v (fun r f1 v1 => Q_X5_hardest g u (fun r' g1 u1 => E r r' ∧ Rel f1 v1 g1 u1))
def Op11 (E : Int32 → Int32 → Prop) (Rel : RelT) : Prop := ∀ (a1 a2 a3 a4 a5 : Int32) (f : FF) (v : VV) (g : FF) (u : VV), Rel f v g u → Q_X4_day a1 a2 a3 a4 a5 f v (fun r f1 v1 => Q_X5_day a1 a2 a3 a4 a5 g u (fun r' g1 u1 => E r r' ∧ Rel f1 v1 g1 u1))
def Op12 (E : Int32 → Int32 → Prop) (Rel : RelT) : Prop := ∀ (a1 : Int32) (f : FF) (v : VV) (g : FF) (u : VV), Rel f v g u → Q_X4_cover a1 f v (fun r f1 v1 => Q_X5_cover a1 g u (fun r' g1 u1 => E r r' ∧ Rel f1 v1 g1 u1))
def Op13 (E : Int32 → Int32 → Prop) (Rel : RelT) : Prop := ∀ (a1 a2 : Int32) (f : FF) (v : VV) (g : FF) (u : VV), Rel f v g u → Q_X4_choose a1 a2 f v (fun r f1 v1 => Q_X5_choose a1 a2 g u (fun r' g1 u1 => E r r' ∧ Rel f1 v1 g1 u1))
def Op14 (E : Int64 → Int64 → Prop) (Rel : RelT) : Prop := ∀ (a1 : Int32) (f : FF) (v : VV) (g : FF) (u : VV), Rel f v g u → Q_X4_score a1 f v (fun r f1 v1 => Q_X5_score a1 g u (fun r' g1 u1 => E r r' ∧ Rel f1 v1 g1 u1))
def Op15 (E : Int32 → Int32 → Prop) (Rel : RelT) : Prop := ∀ (a1 : Int32) (f : FF) (v : VV) (g : FF) (u : VV), Rel f v g u → Q_X4_reading a1 f v (fun r f1 v1 => Q_X5_reading a1 g u (fun r' g1 u1 => E r r' ∧ Rel f1 v1 g1 u1))
def Op16 (E : Int32 → Int32 → Prop) (Rel : RelT) : Prop := ∀ (a1 : Int32) (f : FF) (v : VV) (g : FF) (u : VV), Rel f v g u → Q_X4_back a1 f v (fun r f1 v1 => Q_X5_back a1 g u (fun r' g1 u1 => E r r' ∧ Rel f1 v1 g1 u1))
def Op17 (E : Int32 → Int32 → Prop) (Rel : RelT) : Prop := ∀ (a1 : Int32) (f : FF) (v : VV) (g : FF) (u : VV), Rel f v g u → Q_X4_kinds a1 f v (fun r f1 v1 => Q_X5_kinds a1 g u (fun r' g1 u1 => E r r' ∧ Rel f1 v1 g1 u1))
def Op18 (E : Int32 → Int32 → Prop) (Rel : RelT) : Prop := ∀ (a1 : Int32) (f : FF) (v : VV) (g : FF) (u : VV), Rel f v g u → Q_X4_ways a1 f v (fun r f1 v1 => Q_X5_ways a1 g u (fun r' g1 u1 => E r r' ∧ Rel f1 v1 g1 u1))
def Op19 (E : Int64 → Int64 → Prop) (Rel : RelT) : Prop := ∀ (a1 a2 : Int32) (f : FF) (v : VV) (g : FF) (u : VV), Rel f v g u → Q_X4_odds a1 a2 f v (fun r f1 v1 => Q_X5_odds a1 a2 g u (fun r' g1 u1 => E r r' ∧ Rel f1 v1 g1 u1))
def Op20 (E : Int32 → Int32 → Prop) (Rel : RelT) : Prop := ∀ (a1 a2 a3 : Int32) (f : FF) (v : VV) (g : FF) (u : VV), Rel f v g u → Q_X4_sheet a1 a2 a3 f v (fun r f1 v1 => Q_X5_sheet a1 a2 a3 g u (fun r' g1 u1 => E r r' ∧ Rel f1 v1 g1 u1))
def Op21 (E : Int32 → Int32 → Prop) (Rel : RelT) : Prop := ∀ (a1 : Int32) (f : FF) (v : VV) (g : FF) (u : VV), Rel f v g u → Q_X4_lose a1 f v (fun r f1 v1 => Q_X5_lose a1 g u (fun r' g1 u1 => E r r' ∧ Rel f1 v1 g1 u1))
def Op22 (E : Int32 → Int32 → Prop) (Rel : RelT) : Prop := ∀ (a1 a2 a3 : Int32) (f : FF) (v : VV) (g : FF) (u : VV), Rel f v g u → Q_X4_put a1 a2 a3 f v (fun r f1 v1 => Q_X5_put a1 a2 a3 g u (fun r' g1 u1 => E r r' ∧ Rel f1 v1 g1 u1))
def Op23 (E : Int64 → Int64 → Prop) (Rel : RelT) : Prop := ∀ (a1 a2 a3 : Int32) (f : FF) (v : VV) (g : FF) (u : VV), Rel f v g u → Q_X4_cell a1 a2 a3 f v (fun r f1 v1 => Q_X5_cell a1 a2 a3 g u (fun r' g1 u1 => E r r' ∧ Rel f1 v1 g1 u1))
def Op24 (E : Int32 → Int32 → Prop) (Rel : RelT) : Prop := ∀ (a1 a2 a3 a4 a5 : Int32) (f : FF) (v : VV) (g : FF) (u : VV), Rel f v g u → Q_X4_copy a1 a2 a3 a4 a5 f v (fun r f1 v1 => Q_X5_copy a1 a2 a3 a4 a5 g u (fun r' g1 u1 => E r r' ∧ Rel f1 v1 g1 u1))
def Op25 (E : Int32 → Int32 → Prop) (Rel : RelT) : Prop := ∀ (a1 : Int32) (f : FF) (v : VV) (g : FF) (u : VV), Rel f v g u → Q_X4_tell a1 f v (fun r f1 v1 => Q_X5_tell a1 g u (fun r' g1 u1 => E r r' ∧ Rel f1 v1 g1 u1))
def Op26 (E : Int32 → Int32 → Prop) (Rel : RelT) : Prop := ∀ (a1 : Int32) (f : FF) (v : VV) (g : FF) (u : VV), Rel f v g u → Q_X4_log a1 f v (fun r f1 v1 => Q_X5_log a1 g u (fun r' g1 u1 => E r r' ∧ Rel f1 v1 g1 u1))
def Op27 (E : Int32 → Int32 → Prop) (Rel : RelT) : Prop := ∀ (a1 a2 : Int32) (f : FF) (v : VV) (g : FF) (u : VV), Rel f v g u → Q_X4_as a1 a2 f v (fun r f1 v1 => Q_X5_as a1 a2 g u (fun r' g1 u1 => E r r' ∧ Rel f1 v1 g1 u1))
def Op28 (E : Int32 → Int32 → Prop) (Rel : RelT) : Prop := ∀ (f : FF) (v : VV) (g : FF) (u : VV), Rel f v g u → Q_X4_trace f v (fun r => Q_X5_trace g u (fun r' => E r r' ∧ Rel f v g u))
def Op29 (E : Int32 → Int32 → Prop) (Rel : RelT) : Prop := ∀ (f : FF) (v : VV) (g : FF) (u : VV), Rel f v g u → Q_X4_fault f v (fun r => Q_X5_fault g u (fun r' => E r r' ∧ Rel f v g u))
def Op30 (E : Int32 → Int32 → Prop) (Rel : RelT) : Prop := ∀ (a1 : Int32) (f : FF) (v : VV) (g : FF) (u : VV), Rel f v g u → Q_X4_many a1 f v (fun r f1 v1 => Q_X5_many a1 g u (fun r' g1 u1 => E r r' ∧ Rel f1 v1 g1 u1))
set_option maxRecDepth 100000 in
set_option maxHeartbeats 4000000 in
theorem law_c0 {κ : Kx} {G : Gx} {h h5 : Nat → Nat} {b L : Nat} {xs : Nat → Int32} (C : Cx κ G RL cL_law room_1 4) (hX : va_X b L xs (ks κ) (ks κ).heap) (hbl : b < (ks κ).heap.size) (hbA : ¬ kA κ b) {E : Int32 → Int32 → Prop} {Rel : RelT} (hop : Op0 E Rel) {x3 : Int32} (hi1 : vp_in (x3 + 1) L) (hi2 : vp_in (x3 + 2) L) (hi3 : vp_in (x3 + 3) L) (hi4 : vp_in (x3 + 4) L) {f : FF} {v : VV} {g : FF} {u : VV} (hrel : Rel f v g u) (K : ∀ (f : FF) (v : VV) (g : FF) (u : VV), Rel f v g u → J κ 66 1015 (wM G h f v ++ wE G h5 g u) 1156 [(0, .ref b), (1, .ref (h 0)), (2, .ref (h5 0)), (3, .int x3)] []) : J κ 66 1015 (wM G h f v ++ wE G h5 g u) 172 [(0, .ref b), (1, .ref (h 0)), (2, .ref (h5 0)), (3, .int x3)] [] := by
  have hq := hop (xs (x3 + 1).toNatClampNeg) (xs (x3 + 2).toNatClampNeg) (xs (x3 + 3).toNatClampNeg) (xs (x3 + 4).toNatClampNeg) f v g u hrel
  refine j_aload_n 173 C dL_law_172 rfl 1 rfl ?_
  refine j_aload_n 174 C dL_law_173 rfl 0 rfl ?_
  refine j_iload_n 175 C dL_law_174 rfl 3 rfl ?_
  refine j_iconst 176 C dL_law_175 rfl ic_1 ?_
  refine j_iadd 177 C dL_law_176 rfl ?_
  refine j_sld 178 C hX hbl hbA hi1 dL_law_177 rfl ?_
  refine j_aload_n 179 C dL_law_178 rfl 0 rfl ?_
  refine j_iload_n 180 C dL_law_179 rfl 3 rfl ?_
  refine j_iconst 181 C dL_law_180 rfl ic_2 ?_
  refine j_iadd 182 C dL_law_181 rfl ?_
  refine j_sld 183 C hX hbl hbA hi2 dL_law_182 rfl ?_
  refine j_aload_n 184 C dL_law_183 rfl 0 rfl ?_
  refine j_iload_n 185 C dL_law_184 rfl 3 rfl ?_
  refine j_iconst 186 C dL_law_185 rfl ic_3 ?_
  refine j_iadd 187 C dL_law_186 rfl ?_
  refine j_sld 188 C hX hbl hbA hi3 dL_law_187 rfl ?_
  refine j_aload_n 189 C dL_law_188 rfl 0 rfl ?_
  refine j_iload_n 190 C dL_law_189 rfl 3 rfl ?_
  refine j_iconst 191 C dL_law_190 rfl ic_4 ?_
  refine j_iadd 192 C dL_law_191 rfl ?_
  refine j_sld 193 C hX hbl hbA hi4 dL_law_192 rfl ?_
  refine j_callVi 196 C [] (wE G h5 g u) (fun f' v' => wM G h f' v' ++ wE G h5 g u) (As := [.int (xs (x3 + 1).toNatClampNeg), .int (xs (x3 + 2).toNatClampNeg), .int (xs (x3 + 3).toNatClampNeg), .int (xs (x3 + 4).toNatClampNeg)]) (m_X4_program G h (xs (x3 + 1).toNatClampNeg) (xs (x3 + 2).toNatClampNeg) (xs (x3 + 3).toNatClampNeg) (xs (x3 + 4).toNatClampNeg) f v hq) oX4_program kL_13 ⟨rfl, rfl⟩ eX4_program ⟨Nat.le_of_ble_eq_true rfl, Nat.le_of_ble_eq_true rfl⟩ ⟨Nat.le_of_ble_eq_true rfl, Nat.le_of_ble_eq_true rfl⟩ rfl (fun _ _ => rfl) (fun _ _ => rfl) 0 rfl rfl rfl (Nat.le_of_ble_eq_true rfl) dL_law_193 rfl (fun r1 f1 v1 hq => ?_)
  refine j_pop 197 C dL_law_196 rfl rfl ?_
  refine j_aload_n 198 C dL_law_197 rfl 2 rfl ?_
  refine j_aload_n 199 C dL_law_198 rfl 0 rfl ?_
  refine j_iload_n 200 C dL_law_199 rfl 3 rfl ?_
  refine j_iconst 201 C dL_law_200 rfl ic_1 ?_
  refine j_iadd 202 C dL_law_201 rfl ?_
  refine j_sld 203 C hX hbl hbA hi1 dL_law_202 rfl ?_
  refine j_aload_n 204 C dL_law_203 rfl 0 rfl ?_
  refine j_iload_n 205 C dL_law_204 rfl 3 rfl ?_
  refine j_iconst 206 C dL_law_205 rfl ic_2 ?_
  refine j_iadd 207 C dL_law_206 rfl ?_
  refine j_sld 208 C hX hbl hbA hi2 dL_law_207 rfl ?_
  refine j_aload_n 209 C dL_law_208 rfl 0 rfl ?_
  refine j_iload_n 210 C dL_law_209 rfl 3 rfl ?_
  refine j_iconst 211 C dL_law_210 rfl ic_3 ?_
  refine j_iadd 212 C dL_law_211 rfl ?_
  refine j_sld 213 C hX hbl hbA hi3 dL_law_212 rfl ?_
  refine j_aload_n 214 C dL_law_213 rfl 0 rfl ?_
  refine j_iload_n 215 C dL_law_214 rfl 3 rfl ?_
  refine j_iconst 216 C dL_law_215 rfl ic_4 ?_
  refine j_iadd 217 C dL_law_216 rfl ?_
  refine j_sld 218 C hX hbl hbA hi4 dL_law_217 rfl ?_
  refine j_callVi 221 C (wM G h f1 v1) [] (fun g' u' => wM G h f1 v1 ++ wE G h5 g' u') (As := [.int (xs (x3 + 1).toNatClampNeg), .int (xs (x3 + 2).toNatClampNeg), .int (xs (x3 + 3).toNatClampNeg), .int (xs (x3 + 4).toNatClampNeg)]) (m_X5_program G h5 (xs (x3 + 1).toNatClampNeg) (xs (x3 + 2).toNatClampNeg) (xs (x3 + 3).toNatClampNeg) (xs (x3 + 4).toNatClampNeg) g u hq) oX5_program kL_17 ⟨rfl, rfl⟩ eX5_program ⟨Nat.le_of_ble_eq_true rfl, Nat.le_of_ble_eq_true rfl⟩ ⟨Nat.le_of_ble_eq_true rfl, Nat.le_of_ble_eq_true rfl⟩ (by rw [List.append_nil]) (fun _ _ => by rw [List.append_nil]) (fun _ _ => rfl) 0 rfl rfl rfl (Nat.le_of_ble_eq_true rfl) dL_law_218 rfl (fun r2 f2 v2 hq => ?_)
  refine j_pop 222 C dL_law_221 rfl rfl ?_
  refine j_goto 1156 C dL_law_222 rfl ?_
  exact K f1 v1 f2 v2 hq.2
set_option maxRecDepth 100000 in
set_option maxHeartbeats 4000000 in
theorem law_c1 {κ : Kx} {G : Gx} {h h5 : Nat → Nat} {b L : Nat} {xs : Nat → Int32} (C : Cx κ G RL cL_law room_1 4) (hX : va_X b L xs (ks κ) (ks κ).heap) (hbl : b < (ks κ).heap.size) (hbA : ¬ kA κ b) {E : Int32 → Int32 → Prop} {Rel : RelT} (hop : Op1 E Rel) {x3 : Int32} (hi1 : vp_in (x3 + 1) L) (hi2 : vp_in (x3 + 2) L) {f : FF} {v : VV} {g : FF} {u : VV} (hrel : Rel f v g u) (K : ∀ (f : FF) (v : VV) (g : FF) (u : VV), Rel f v g u → J κ 66 1015 (wM G h f v ++ wE G h5 g u) 1156 [(0, .ref b), (1, .ref (h 0)), (2, .ref (h5 0)), (3, .int x3)] []) : J κ 66 1015 (wM G h f v ++ wE G h5 g u) 225 [(0, .ref b), (1, .ref (h 0)), (2, .ref (h5 0)), (3, .int x3)] [] := by
  have hq := hop (xs (x3 + 1).toNatClampNeg) (xs (x3 + 2).toNatClampNeg) f v g u hrel
  refine j_aload_n 226 C dL_law_225 rfl 1 rfl ?_
  refine j_aload_n 227 C dL_law_226 rfl 0 rfl ?_
  refine j_iload_n 228 C dL_law_227 rfl 3 rfl ?_
  refine j_iconst 229 C dL_law_228 rfl ic_1 ?_
  refine j_iadd 230 C dL_law_229 rfl ?_
  refine j_sld 231 C hX hbl hbA hi1 dL_law_230 rfl ?_
  refine j_aload_n 232 C dL_law_231 rfl 0 rfl ?_
  refine j_iload_n 233 C dL_law_232 rfl 3 rfl ?_
  refine j_iconst 234 C dL_law_233 rfl ic_2 ?_
  refine j_iadd 235 C dL_law_234 rfl ?_
  refine j_sld 236 C hX hbl hbA hi2 dL_law_235 rfl ?_
  refine j_callVi_ro 239 C [] (wE G h5 g u) (As := [.int (xs (x3 + 1).toNatClampNeg), .int (xs (x3 + 2).toNatClampNeg)]) (m_X4_ofStep G h (xs (x3 + 1).toNatClampNeg) (xs (x3 + 2).toNatClampNeg) f v hq) oX4_ofStep kL_18 ⟨rfl, rfl⟩ eX4_ofStep ⟨Nat.le_of_ble_eq_true rfl, Nat.le_of_ble_eq_true rfl⟩ ⟨Nat.le_of_ble_eq_true rfl, Nat.le_of_ble_eq_true rfl⟩ rfl (fun _ _ => rfl) 0 rfl rfl rfl (Nat.le_of_ble_eq_true rfl) dL_law_236 rfl (fun r1 hq => ?_)
  refine j_pop 240 C dL_law_239 rfl rfl ?_
  refine j_aload_n 241 C dL_law_240 rfl 2 rfl ?_
  refine j_aload_n 242 C dL_law_241 rfl 0 rfl ?_
  refine j_iload_n 243 C dL_law_242 rfl 3 rfl ?_
  refine j_iconst 244 C dL_law_243 rfl ic_1 ?_
  refine j_iadd 245 C dL_law_244 rfl ?_
  refine j_sld 246 C hX hbl hbA hi1 dL_law_245 rfl ?_
  refine j_aload_n 247 C dL_law_246 rfl 0 rfl ?_
  refine j_iload_n 248 C dL_law_247 rfl 3 rfl ?_
  refine j_iconst 249 C dL_law_248 rfl ic_2 ?_
  refine j_iadd 250 C dL_law_249 rfl ?_
  refine j_sld 251 C hX hbl hbA hi2 dL_law_250 rfl ?_
  refine j_callVi_ro 254 C (wM G h f v) [] (As := [.int (xs (x3 + 1).toNatClampNeg), .int (xs (x3 + 2).toNatClampNeg)]) (m_X5_ofStep G h5 (xs (x3 + 1).toNatClampNeg) (xs (x3 + 2).toNatClampNeg) g u hq) oX5_ofStep kL_22 ⟨rfl, rfl⟩ eX5_ofStep ⟨Nat.le_of_ble_eq_true rfl, Nat.le_of_ble_eq_true rfl⟩ ⟨Nat.le_of_ble_eq_true rfl, Nat.le_of_ble_eq_true rfl⟩ (by rw [List.append_nil]) (fun _ _ => rfl) 0 rfl rfl rfl (Nat.le_of_ble_eq_true rfl) dL_law_251 rfl (fun r2 hq => ?_)
  refine j_pop 255 C dL_law_254 rfl rfl ?_
  refine j_goto 1156 C dL_law_255 rfl ?_
  exact K f v g u hq.2
set_option maxRecDepth 100000 in
set_option maxHeartbeats 4000000 in
theorem law_c2 {κ : Kx} {G : Gx} {h h5 : Nat → Nat} {b L : Nat} {xs : Nat → Int32} (C : Cx κ G RL cL_law room_1 4) (hX : va_X b L xs (ks κ) (ks κ).heap) (hbl : b < (ks κ).heap.size) (hbA : ¬ kA κ b) {E : Int32 → Int32 → Prop} {Rel : RelT} (hop : Op2 E Rel) {x3 : Int32} (hi1 : vp_in (x3 + 1) L) (hi2 : vp_in (x3 + 2) L) {f : FF} {v : VV} {g : FF} {u : VV} (hrel : Rel f v g u) (K : ∀ (f : FF) (v : VV) (g : FF) (u : VV), Rel f v g u → J κ 66 1015 (wM G h f v ++ wE G h5 g u) 1156 [(0, .ref b), (1, .ref (h 0)), (2, .ref (h5 0)), (3, .int x3)] []) : J κ 66 1015 (wM G h f v ++ wE G h5 g u) 258 [(0, .ref b), (1, .ref (h 0)), (2, .ref (h5 0)), (3, .int x3)] [] := by
  have hq := hop (xs (x3 + 1).toNatClampNeg) (xs (x3 + 2).toNatClampNeg) f v g u hrel
  refine j_aload_n 259 C dL_law_258 rfl 1 rfl ?_
  refine j_aload_n 260 C dL_law_259 rfl 0 rfl ?_
  refine j_iload_n 261 C dL_law_260 rfl 3 rfl ?_
  refine j_iconst 262 C dL_law_261 rfl ic_1 ?_
  refine j_iadd 263 C dL_law_262 rfl ?_
  refine j_sld 264 C hX hbl hbA hi1 dL_law_263 rfl ?_
  refine j_aload_n 265 C dL_law_264 rfl 0 rfl ?_
  refine j_iload_n 266 C dL_law_265 rfl 3 rfl ?_
  refine j_iconst 267 C dL_law_266 rfl ic_2 ?_
  refine j_iadd 268 C dL_law_267 rfl ?_
  refine j_sld 269 C hX hbl hbA hi2 dL_law_268 rfl ?_
  refine j_callVi 272 C [] (wE G h5 g u) (fun f' v' => wM G h f' v' ++ wE G h5 g u) (As := [.int (xs (x3 + 1).toNatClampNeg), .int (xs (x3 + 2).toNatClampNeg)]) (m_X4_ofTest G h (xs (x3 + 1).toNatClampNeg) (xs (x3 + 2).toNatClampNeg) f v hq) oX4_ofTest kL_23 ⟨rfl, rfl⟩ eX4_ofTest ⟨Nat.le_of_ble_eq_true rfl, Nat.le_of_ble_eq_true rfl⟩ ⟨Nat.le_of_ble_eq_true rfl, Nat.le_of_ble_eq_true rfl⟩ rfl (fun _ _ => rfl) (fun _ _ => rfl) 0 rfl rfl rfl (Nat.le_of_ble_eq_true rfl) dL_law_269 rfl (fun r1 f1 v1 hq => ?_)
  refine j_pop 273 C dL_law_272 rfl rfl ?_
  refine j_aload_n 274 C dL_law_273 rfl 2 rfl ?_
  refine j_aload_n 275 C dL_law_274 rfl 0 rfl ?_
  refine j_iload_n 276 C dL_law_275 rfl 3 rfl ?_
  refine j_iconst 277 C dL_law_276 rfl ic_1 ?_
  refine j_iadd 278 C dL_law_277 rfl ?_
  refine j_sld 279 C hX hbl hbA hi1 dL_law_278 rfl ?_
  refine j_aload_n 280 C dL_law_279 rfl 0 rfl ?_
  refine j_iload_n 281 C dL_law_280 rfl 3 rfl ?_
  refine j_iconst 282 C dL_law_281 rfl ic_2 ?_
  refine j_iadd 283 C dL_law_282 rfl ?_
  refine j_sld 284 C hX hbl hbA hi2 dL_law_283 rfl ?_
  refine j_callVi 287 C (wM G h f1 v1) [] (fun g' u' => wM G h f1 v1 ++ wE G h5 g' u') (As := [.int (xs (x3 + 1).toNatClampNeg), .int (xs (x3 + 2).toNatClampNeg)]) (m_X5_ofTest G h5 (xs (x3 + 1).toNatClampNeg) (xs (x3 + 2).toNatClampNeg) g u hq) oX5_ofTest kL_26 ⟨rfl, rfl⟩ eX5_ofTest ⟨Nat.le_of_ble_eq_true rfl, Nat.le_of_ble_eq_true rfl⟩ ⟨Nat.le_of_ble_eq_true rfl, Nat.le_of_ble_eq_true rfl⟩ (by rw [List.append_nil]) (fun _ _ => by rw [List.append_nil]) (fun _ _ => rfl) 0 rfl rfl rfl (Nat.le_of_ble_eq_true rfl) dL_law_284 rfl (fun r2 f2 v2 hq => ?_)
  refine j_pop 288 C dL_law_287 rfl rfl ?_
  refine j_goto 1156 C dL_law_288 rfl ?_
  exact K f1 v1 f2 v2 hq.2
set_option maxRecDepth 100000 in
set_option maxHeartbeats 4000000 in
theorem law_c3 {κ : Kx} {G : Gx} {h h5 : Nat → Nat} {b L : Nat} {xs : Nat → Int32} (C : Cx κ G RL cL_law room_1 4) (hX : va_X b L xs (ks κ) (ks κ).heap) (hbl : b < (ks κ).heap.size) (hbA : ¬ kA κ b) {E : Int32 → Int32 → Prop} {Rel : RelT} (hop : Op3 E Rel) {x3 : Int32} (hi1 : vp_in (x3 + 1) L) (hi2 : vp_in (x3 + 2) L) {f : FF} {v : VV} {g : FF} {u : VV} (hrel : Rel f v g u) (K : ∀ (f : FF) (v : VV) (g : FF) (u : VV), Rel f v g u → J κ 66 1015 (wM G h f v ++ wE G h5 g u) 1156 [(0, .ref b), (1, .ref (h 0)), (2, .ref (h5 0)), (3, .int x3)] []) : J κ 66 1015 (wM G h f v ++ wE G h5 g u) 291 [(0, .ref b), (1, .ref (h 0)), (2, .ref (h5 0)), (3, .int x3)] [] := by
  have hq := hop (xs (x3 + 1).toNatClampNeg) (xs (x3 + 2).toNatClampNeg) f v g u hrel
  refine j_aload_n 292 C dL_law_291 rfl 1 rfl ?_
  refine j_aload_n 293 C dL_law_292 rfl 0 rfl ?_
  refine j_iload_n 294 C dL_law_293 rfl 3 rfl ?_
  refine j_iconst 295 C dL_law_294 rfl ic_1 ?_
  refine j_iadd 296 C dL_law_295 rfl ?_
  refine j_sld 297 C hX hbl hbA hi1 dL_law_296 rfl ?_
  refine j_aload_n 298 C dL_law_297 rfl 0 rfl ?_
  refine j_iload_n 299 C dL_law_298 rfl 3 rfl ?_
  refine j_iconst 300 C dL_law_299 rfl ic_2 ?_
  refine j_iadd 301 C dL_law_300 rfl ?_
  refine j_sld 302 C hX hbl hbA hi2 dL_law_301 rfl ?_
  refine j_callVi 305 C [] (wE G h5 g u) (fun f' v' => wM G h f' v' ++ wE G h5 g u) (As := [.int (xs (x3 + 1).toNatClampNeg), .int (xs (x3 + 2).toNatClampNeg)]) (m_X4_output G h (xs (x3 + 1).toNatClampNeg) (xs (x3 + 2).toNatClampNeg) f v hq) oX4_output kL_27 ⟨rfl, rfl⟩ eX4_output ⟨Nat.le_of_ble_eq_true rfl, Nat.le_of_ble_eq_true rfl⟩ ⟨Nat.le_of_ble_eq_true rfl, Nat.le_of_ble_eq_true rfl⟩ rfl (fun _ _ => rfl) (fun _ _ => rfl) 0 rfl rfl rfl (Nat.le_of_ble_eq_true rfl) dL_law_302 rfl (fun r1 f1 v1 hq => ?_)
  refine j_pop 306 C dL_law_305 rfl rfl ?_
  refine j_aload_n 307 C dL_law_306 rfl 2 rfl ?_
  refine j_aload_n 308 C dL_law_307 rfl 0 rfl ?_
  refine j_iload_n 309 C dL_law_308 rfl 3 rfl ?_
  refine j_iconst 310 C dL_law_309 rfl ic_1 ?_
  refine j_iadd 311 C dL_law_310 rfl ?_
  refine j_sld 312 C hX hbl hbA hi1 dL_law_311 rfl ?_
  refine j_aload_n 313 C dL_law_312 rfl 0 rfl ?_
  refine j_iload_n 314 C dL_law_313 rfl 3 rfl ?_
  refine j_iconst 315 C dL_law_314 rfl ic_2 ?_
  refine j_iadd 316 C dL_law_315 rfl ?_
  refine j_sld 317 C hX hbl hbA hi2 dL_law_316 rfl ?_
  refine j_callVi 320 C (wM G h f1 v1) [] (fun g' u' => wM G h f1 v1 ++ wE G h5 g' u') (As := [.int (xs (x3 + 1).toNatClampNeg), .int (xs (x3 + 2).toNatClampNeg)]) (m_X5_output G h5 (xs (x3 + 1).toNatClampNeg) (xs (x3 + 2).toNatClampNeg) g u hq) oX5_output kL_30 ⟨rfl, rfl⟩ eX5_output ⟨Nat.le_of_ble_eq_true rfl, Nat.le_of_ble_eq_true rfl⟩ ⟨Nat.le_of_ble_eq_true rfl, Nat.le_of_ble_eq_true rfl⟩ (by rw [List.append_nil]) (fun _ _ => by rw [List.append_nil]) (fun _ _ => rfl) 0 rfl rfl rfl (Nat.le_of_ble_eq_true rfl) dL_law_317 rfl (fun r2 f2 v2 hq => ?_)
  refine j_pop 321 C dL_law_320 rfl rfl ?_
  refine j_goto 1156 C dL_law_321 rfl ?_
  exact K f1 v1 f2 v2 hq.2
set_option maxRecDepth 100000 in
set_option maxHeartbeats 4000000 in
theorem law_c4 {κ : Kx} {G : Gx} {h h5 : Nat → Nat} {b L : Nat} {xs : Nat → Int32} (C : Cx κ G RL cL_law room_1 4) (hX : va_X b L xs (ks κ) (ks κ).heap) (hbl : b < (ks κ).heap.size) (hbA : ¬ kA κ b) {E : Int32 → Int32 → Prop} {Rel : RelT} (hop : Op4 E Rel) {x3 : Int32} (hi1 : vp_in (x3 + 1) L) (hi2 : vp_in (x3 + 2) L) {f : FF} {v : VV} {g : FF} {u : VV} (hrel : Rel f v g u) (K : ∀ (f : FF) (v : VV) (g : FF) (u : VV), Rel f v g u → J κ 66 1015 (wM G h f v ++ wE G h5 g u) 1156 [(0, .ref b), (1, .ref (h 0)), (2, .ref (h5 0)), (3, .int x3)] []) : J κ 66 1015 (wM G h f v ++ wE G h5 g u) 324 [(0, .ref b), (1, .ref (h 0)), (2, .ref (h5 0)), (3, .int x3)] [] := by
  have hq := hop (xs (x3 + 1).toNatClampNeg) (xs (x3 + 2).toNatClampNeg) f v g u hrel
  refine j_aload_n 325 C dL_law_324 rfl 1 rfl ?_
  refine j_aload_n 326 C dL_law_325 rfl 0 rfl ?_
  refine j_iload_n 327 C dL_law_326 rfl 3 rfl ?_
  refine j_iconst 328 C dL_law_327 rfl ic_1 ?_
  refine j_iadd 329 C dL_law_328 rfl ?_
  refine j_sld 330 C hX hbl hbA hi1 dL_law_329 rfl ?_
  refine j_aload_n 331 C dL_law_330 rfl 0 rfl ?_
  refine j_iload_n 332 C dL_law_331 rfl 3 rfl ?_
  refine j_iconst 333 C dL_law_332 rfl ic_2 ?_
  refine j_iadd 334 C dL_law_333 rfl ?_
  refine j_sld 335 C hX hbl hbA hi2 dL_law_334 rfl ?_
  refine j_callVi 338 C [] (wE G h5 g u) (fun f' v' => wM G h f' v' ++ wE G h5 g u) (As := [.int (xs (x3 + 1).toNatClampNeg), .int (xs (x3 + 2).toNatClampNeg)]) (m_X4_way G h (xs (x3 + 1).toNatClampNeg) (xs (x3 + 2).toNatClampNeg) f v hq) oX4_way kL_31 ⟨rfl, rfl⟩ eX4_way ⟨Nat.le_of_ble_eq_true rfl, Nat.le_of_ble_eq_true rfl⟩ ⟨Nat.le_of_ble_eq_true rfl, Nat.le_of_ble_eq_true rfl⟩ rfl (fun _ _ => rfl) (fun _ _ => rfl) 0 rfl rfl rfl (Nat.le_of_ble_eq_true rfl) dL_law_335 rfl (fun r1 f1 v1 hq => ?_)
  refine j_pop 339 C dL_law_338 rfl rfl ?_
  refine j_aload_n 340 C dL_law_339 rfl 2 rfl ?_
  refine j_aload_n 341 C dL_law_340 rfl 0 rfl ?_
  refine j_iload_n 342 C dL_law_341 rfl 3 rfl ?_
  refine j_iconst 343 C dL_law_342 rfl ic_1 ?_
  refine j_iadd 344 C dL_law_343 rfl ?_
  refine j_sld 345 C hX hbl hbA hi1 dL_law_344 rfl ?_
  refine j_aload_n 346 C dL_law_345 rfl 0 rfl ?_
  refine j_iload_n 347 C dL_law_346 rfl 3 rfl ?_
  refine j_iconst 348 C dL_law_347 rfl ic_2 ?_
  refine j_iadd 349 C dL_law_348 rfl ?_
  refine j_sld 350 C hX hbl hbA hi2 dL_law_349 rfl ?_
  refine j_callVi 353 C (wM G h f1 v1) [] (fun g' u' => wM G h f1 v1 ++ wE G h5 g' u') (As := [.int (xs (x3 + 1).toNatClampNeg), .int (xs (x3 + 2).toNatClampNeg)]) (m_X5_way G h5 (xs (x3 + 1).toNatClampNeg) (xs (x3 + 2).toNatClampNeg) g u hq) oX5_way kL_34 ⟨rfl, rfl⟩ eX5_way ⟨Nat.le_of_ble_eq_true rfl, Nat.le_of_ble_eq_true rfl⟩ ⟨Nat.le_of_ble_eq_true rfl, Nat.le_of_ble_eq_true rfl⟩ (by rw [List.append_nil]) (fun _ _ => by rw [List.append_nil]) (fun _ _ => rfl) 0 rfl rfl rfl (Nat.le_of_ble_eq_true rfl) dL_law_350 rfl (fun r2 f2 v2 hq => ?_)
  refine j_pop 354 C dL_law_353 rfl rfl ?_
  refine j_goto 1156 C dL_law_354 rfl ?_
  exact K f1 v1 f2 v2 hq.2
set_option maxRecDepth 100000 in
set_option maxHeartbeats 4000000 in
theorem law_c5 {κ : Kx} {G : Gx} {h h5 : Nat → Nat} {b L : Nat} {xs : Nat → Int32} (C : Cx κ G RL cL_law room_1 4) (hX : va_X b L xs (ks κ) (ks κ).heap) (hbl : b < (ks κ).heap.size) (hbA : ¬ kA κ b) {E : Int32 → Int32 → Prop} {Rel : RelT} (hop : Op5 E Rel) {x3 : Int32} (hi1 : vp_in (x3 + 1) L) (hi2 : vp_in (x3 + 2) L) {f : FF} {v : VV} {g : FF} {u : VV} (hrel : Rel f v g u) (K : ∀ (f : FF) (v : VV) (g : FF) (u : VV), Rel f v g u → J κ 66 1015 (wM G h f v ++ wE G h5 g u) 1156 [(0, .ref b), (1, .ref (h 0)), (2, .ref (h5 0)), (3, .int x3)] []) : J κ 66 1015 (wM G h f v ++ wE G h5 g u) 357 [(0, .ref b), (1, .ref (h 0)), (2, .ref (h5 0)), (3, .int x3)] [] := by
  have hq := hop (xs (x3 + 1).toNatClampNeg) (xs (x3 + 2).toNatClampNeg) f v g u hrel
  refine j_aload_n 358 C dL_law_357 rfl 1 rfl ?_
  refine j_aload_n 359 C dL_law_358 rfl 0 rfl ?_
  refine j_iload_n 360 C dL_law_359 rfl 3 rfl ?_
  refine j_iconst 361 C dL_law_360 rfl ic_1 ?_
  refine j_iadd 362 C dL_law_361 rfl ?_
  refine j_sld 363 C hX hbl hbA hi1 dL_law_362 rfl ?_
  refine j_aload_n 364 C dL_law_363 rfl 0 rfl ?_
  refine j_iload_n 365 C dL_law_364 rfl 3 rfl ?_
  refine j_iconst 366 C dL_law_365 rfl ic_2 ?_
  refine j_iadd 367 C dL_law_366 rfl ?_
  refine j_sld 368 C hX hbl hbA hi2 dL_law_367 rfl ?_
  refine j_callVi 371 C [] (wE G h5 g u) (fun f' v' => wM G h f' v' ++ wE G h5 g u) (As := [.int (xs (x3 + 1).toNatClampNeg), .int (xs (x3 + 2).toNatClampNeg)]) (m_X4_time G h (xs (x3 + 1).toNatClampNeg) (xs (x3 + 2).toNatClampNeg) f v hq) oX4_time kL_35 ⟨rfl, rfl⟩ eX4_time ⟨Nat.le_of_ble_eq_true rfl, Nat.le_of_ble_eq_true rfl⟩ ⟨Nat.le_of_ble_eq_true rfl, Nat.le_of_ble_eq_true rfl⟩ rfl (fun _ _ => rfl) (fun _ _ => rfl) 0 rfl rfl rfl (Nat.le_of_ble_eq_true rfl) dL_law_368 rfl (fun r1 f1 v1 hq => ?_)
  refine j_pop 372 C dL_law_371 rfl rfl ?_
  refine j_aload_n 373 C dL_law_372 rfl 2 rfl ?_
  refine j_aload_n 374 C dL_law_373 rfl 0 rfl ?_
  refine j_iload_n 375 C dL_law_374 rfl 3 rfl ?_
  refine j_iconst 376 C dL_law_375 rfl ic_1 ?_
  refine j_iadd 377 C dL_law_376 rfl ?_
  refine j_sld 378 C hX hbl hbA hi1 dL_law_377 rfl ?_
  refine j_aload_n 379 C dL_law_378 rfl 0 rfl ?_
  refine j_iload_n 380 C dL_law_379 rfl 3 rfl ?_
  refine j_iconst 381 C dL_law_380 rfl ic_2 ?_
  refine j_iadd 382 C dL_law_381 rfl ?_
  refine j_sld 383 C hX hbl hbA hi2 dL_law_382 rfl ?_
  refine j_callVi 386 C (wM G h f1 v1) [] (fun g' u' => wM G h f1 v1 ++ wE G h5 g' u') (As := [.int (xs (x3 + 1).toNatClampNeg), .int (xs (x3 + 2).toNatClampNeg)]) (m_X5_time G h5 (xs (x3 + 1).toNatClampNeg) (xs (x3 + 2).toNatClampNeg) g u hq) oX5_time kL_38 ⟨rfl, rfl⟩ eX5_time ⟨Nat.le_of_ble_eq_true rfl, Nat.le_of_ble_eq_true rfl⟩ ⟨Nat.le_of_ble_eq_true rfl, Nat.le_of_ble_eq_true rfl⟩ (by rw [List.append_nil]) (fun _ _ => by rw [List.append_nil]) (fun _ _ => rfl) 0 rfl rfl rfl (Nat.le_of_ble_eq_true rfl) dL_law_383 rfl (fun r2 f2 v2 hq => ?_)
  refine j_pop 387 C dL_law_386 rfl rfl ?_
  refine j_goto 1156 C dL_law_387 rfl ?_
  exact K f1 v1 f2 v2 hq.2
set_option maxRecDepth 100000 in
set_option maxHeartbeats 4000000 in
theorem law_c6 {κ : Kx} {G : Gx} {h h5 : Nat → Nat} {b L : Nat} {xs : Nat → Int32} (C : Cx κ G RL cL_law room_1 4) (hX : va_X b L xs (ks κ) (ks κ).heap) (hbl : b < (ks κ).heap.size) (hbA : ¬ kA κ b) {E : Int32 → Int32 → Prop} {Rel : RelT} (hop : Op6 E Rel) {x3 : Int32} (hi1 : vp_in (x3 + 1) L) (hi2 : vp_in (x3 + 2) L) (hi3 : vp_in (x3 + 3) L) {f : FF} {v : VV} {g : FF} {u : VV} (hrel : Rel f v g u) (K : ∀ (f : FF) (v : VV) (g : FF) (u : VV), Rel f v g u → J κ 66 1015 (wM G h f v ++ wE G h5 g u) 1156 [(0, .ref b), (1, .ref (h 0)), (2, .ref (h5 0)), (3, .int x3)] []) : J κ 66 1015 (wM G h f v ++ wE G h5 g u) 390 [(0, .ref b), (1, .ref (h 0)), (2, .ref (h5 0)), (3, .int x3)] [] := by
  have hq := hop (xs (x3 + 1).toNatClampNeg) (xs (x3 + 2).toNatClampNeg) (xs (x3 + 3).toNatClampNeg) f v g u hrel
  refine j_aload_n 391 C dL_law_390 rfl 1 rfl ?_
  refine j_aload_n 392 C dL_law_391 rfl 0 rfl ?_
  refine j_iload_n 393 C dL_law_392 rfl 3 rfl ?_
  refine j_iconst 394 C dL_law_393 rfl ic_1 ?_
  refine j_iadd 395 C dL_law_394 rfl ?_
  refine j_sld 396 C hX hbl hbA hi1 dL_law_395 rfl ?_
  refine j_aload_n 397 C dL_law_396 rfl 0 rfl ?_
  refine j_iload_n 398 C dL_law_397 rfl 3 rfl ?_
  refine j_iconst 399 C dL_law_398 rfl ic_2 ?_
  refine j_iadd 400 C dL_law_399 rfl ?_
  refine j_sld 401 C hX hbl hbA hi2 dL_law_400 rfl ?_
  refine j_aload_n 402 C dL_law_401 rfl 0 rfl ?_
  refine j_iload_n 403 C dL_law_402 rfl 3 rfl ?_
  refine j_iconst 404 C dL_law_403 rfl ic_3 ?_
  refine j_iadd 405 C dL_law_404 rfl ?_
  refine j_sld 406 C hX hbl hbA hi3 dL_law_405 rfl ?_
  refine j_callVi 409 C [] (wE G h5 g u) (fun f' v' => wM G h f' v' ++ wE G h5 g u) (As := [.int (xs (x3 + 1).toNatClampNeg), .int (xs (x3 + 2).toNatClampNeg), .int (xs (x3 + 3).toNatClampNeg)]) (m_X4_aim G h (xs (x3 + 1).toNatClampNeg) (xs (x3 + 2).toNatClampNeg) (xs (x3 + 3).toNatClampNeg) f v hq) oX4_aim kL_39 ⟨rfl, rfl⟩ eX4_aim ⟨Nat.le_of_ble_eq_true rfl, Nat.le_of_ble_eq_true rfl⟩ ⟨Nat.le_of_ble_eq_true rfl, Nat.le_of_ble_eq_true rfl⟩ rfl (fun _ _ => rfl) (fun _ _ => rfl) 0 rfl rfl rfl (Nat.le_of_ble_eq_true rfl) dL_law_406 rfl (fun r1 f1 v1 hq => ?_)
  refine j_pop 410 C dL_law_409 rfl rfl ?_
  refine j_aload_n 411 C dL_law_410 rfl 2 rfl ?_
  refine j_aload_n 412 C dL_law_411 rfl 0 rfl ?_
  refine j_iload_n 413 C dL_law_412 rfl 3 rfl ?_
  refine j_iconst 414 C dL_law_413 rfl ic_1 ?_
  refine j_iadd 415 C dL_law_414 rfl ?_
  refine j_sld 416 C hX hbl hbA hi1 dL_law_415 rfl ?_
  refine j_aload_n 417 C dL_law_416 rfl 0 rfl ?_
  refine j_iload_n 418 C dL_law_417 rfl 3 rfl ?_
  refine j_iconst 419 C dL_law_418 rfl ic_2 ?_
  refine j_iadd 420 C dL_law_419 rfl ?_
  refine j_sld 421 C hX hbl hbA hi2 dL_law_420 rfl ?_
  refine j_aload_n 422 C dL_law_421 rfl 0 rfl ?_
  refine j_iload_n 423 C dL_law_422 rfl 3 rfl ?_
  refine j_iconst 424 C dL_law_423 rfl ic_3 ?_
  refine j_iadd 425 C dL_law_424 rfl ?_
  refine j_sld 426 C hX hbl hbA hi3 dL_law_425 rfl ?_
  refine j_callVi 429 C (wM G h f1 v1) [] (fun g' u' => wM G h f1 v1 ++ wE G h5 g' u') (As := [.int (xs (x3 + 1).toNatClampNeg), .int (xs (x3 + 2).toNatClampNeg), .int (xs (x3 + 3).toNatClampNeg)]) (m_X5_aim G h5 (xs (x3 + 1).toNatClampNeg) (xs (x3 + 2).toNatClampNeg) (xs (x3 + 3).toNatClampNeg) g u hq) oX5_aim kL_43 ⟨rfl, rfl⟩ eX5_aim ⟨Nat.le_of_ble_eq_true rfl, Nat.le_of_ble_eq_true rfl⟩ ⟨Nat.le_of_ble_eq_true rfl, Nat.le_of_ble_eq_true rfl⟩ (by rw [List.append_nil]) (fun _ _ => by rw [List.append_nil]) (fun _ _ => rfl) 0 rfl rfl rfl (Nat.le_of_ble_eq_true rfl) dL_law_426 rfl (fun r2 f2 v2 hq => ?_)
  refine j_pop 430 C dL_law_429 rfl rfl ?_
  refine j_goto 1156 C dL_law_430 rfl ?_
  exact K f1 v1 f2 v2 hq.2
set_option maxRecDepth 100000 in
set_option maxHeartbeats 4000000 in
theorem law_c7 {κ : Kx} {G : Gx} {h h5 : Nat → Nat} {b L : Nat} {xs : Nat → Int32} (C : Cx κ G RL cL_law room_1 4) (hX : va_X b L xs (ks κ) (ks κ).heap) (hbl : b < (ks κ).heap.size) (hbA : ¬ kA κ b) {E : Int32 → Int32 → Prop} {Rel : RelT} (hop : Op7 E Rel) {x3 : Int32} (hi1 : vp_in (x3 + 1) L) (hi2 : vp_in (x3 + 2) L) {f : FF} {v : VV} {g : FF} {u : VV} (hrel : Rel f v g u) (K : ∀ (f : FF) (v : VV) (g : FF) (u : VV), Rel f v g u → J κ 66 1015 (wM G h f v ++ wE G h5 g u) 1156 [(0, .ref b), (1, .ref (h 0)), (2, .ref (h5 0)), (3, .int x3)] []) : J κ 66 1015 (wM G h f v ++ wE G h5 g u) 433 [(0, .ref b), (1, .ref (h 0)), (2, .ref (h5 0)), (3, .int x3)] [] := by
  have hq := hop (xs (x3 + 1).toNatClampNeg) (xs (x3 + 2).toNatClampNeg) f v g u hrel
  refine j_aload_n 434 C dL_law_433 rfl 1 rfl ?_
  refine j_aload_n 435 C dL_law_434 rfl 0 rfl ?_
  refine j_iload_n 436 C dL_law_435 rfl 3 rfl ?_
  refine j_iconst 437 C dL_law_436 rfl ic_1 ?_
  refine j_iadd 438 C dL_law_437 rfl ?_
  refine j_sld 439 C hX hbl hbA hi1 dL_law_438 rfl ?_
  refine j_aload_n 440 C dL_law_439 rfl 0 rfl ?_
  refine j_iload_n 441 C dL_law_440 rfl 3 rfl ?_
  refine j_iconst 442 C dL_law_441 rfl ic_2 ?_
  refine j_iadd 443 C dL_law_442 rfl ?_
  refine j_sld 444 C hX hbl hbA hi2 dL_law_443 rfl ?_
  refine j_callVi 447 C [] (wE G h5 g u) (fun f' v' => wM G h f' v' ++ wE G h5 g u) (As := [.int (xs (x3 + 1).toNatClampNeg), .int (xs (x3 + 2).toNatClampNeg)]) (m_X4_ofMutant G h (xs (x3 + 1).toNatClampNeg) (xs (x3 + 2).toNatClampNeg) f v hq) oX4_ofMutant kL_44 ⟨rfl, rfl⟩ eX4_ofMutant ⟨Nat.le_of_ble_eq_true rfl, Nat.le_of_ble_eq_true rfl⟩ ⟨Nat.le_of_ble_eq_true rfl, Nat.le_of_ble_eq_true rfl⟩ rfl (fun _ _ => rfl) (fun _ _ => rfl) 0 rfl rfl rfl (Nat.le_of_ble_eq_true rfl) dL_law_444 rfl (fun r1 f1 v1 hq => ?_)
  refine j_pop 448 C dL_law_447 rfl rfl ?_
  refine j_aload_n 449 C dL_law_448 rfl 2 rfl ?_
  refine j_aload_n 450 C dL_law_449 rfl 0 rfl ?_
  refine j_iload_n 451 C dL_law_450 rfl 3 rfl ?_
  refine j_iconst 452 C dL_law_451 rfl ic_1 ?_
  refine j_iadd 453 C dL_law_452 rfl ?_
  refine j_sld 454 C hX hbl hbA hi1 dL_law_453 rfl ?_
  refine j_aload_n 455 C dL_law_454 rfl 0 rfl ?_
  refine j_iload_n 456 C dL_law_455 rfl 3 rfl ?_
  refine j_iconst 457 C dL_law_456 rfl ic_2 ?_
  refine j_iadd 458 C dL_law_457 rfl ?_
  refine j_sld 459 C hX hbl hbA hi2 dL_law_458 rfl ?_
  refine j_callVi 462 C (wM G h f1 v1) [] (fun g' u' => wM G h f1 v1 ++ wE G h5 g' u') (As := [.int (xs (x3 + 1).toNatClampNeg), .int (xs (x3 + 2).toNatClampNeg)]) (m_X5_ofMutant G h5 (xs (x3 + 1).toNatClampNeg) (xs (x3 + 2).toNatClampNeg) g u hq) oX5_ofMutant kL_47 ⟨rfl, rfl⟩ eX5_ofMutant ⟨Nat.le_of_ble_eq_true rfl, Nat.le_of_ble_eq_true rfl⟩ ⟨Nat.le_of_ble_eq_true rfl, Nat.le_of_ble_eq_true rfl⟩ (by rw [List.append_nil]) (fun _ _ => by rw [List.append_nil]) (fun _ _ => rfl) 0 rfl rfl rfl (Nat.le_of_ble_eq_true rfl) dL_law_459 rfl (fun r2 f2 v2 hq => ?_)
  refine j_pop 463 C dL_law_462 rfl rfl ?_
  refine j_goto 1156 C dL_law_463 rfl ?_
  exact K f1 v1 f2 v2 hq.2
set_option maxRecDepth 100000 in
set_option maxHeartbeats 4000000 in
theorem law_c8 {κ : Kx} {G : Gx} {h h5 : Nat → Nat} {b L : Nat} {xs : Nat → Int32} (C : Cx κ G RL cL_law room_1 4) (hX : va_X b L xs (ks κ) (ks κ).heap) (hbl : b < (ks κ).heap.size) (hbA : ¬ kA κ b) {E : Int32 → Int32 → Prop} {Rel : RelT} (hop : Op8 E Rel) {x3 : Int32} (hi1 : vp_in (x3 + 1) L) (hi2 : vp_in (x3 + 2) L) {f : FF} {v : VV} {g : FF} {u : VV} (hrel : Rel f v g u) (K : ∀ (f : FF) (v : VV) (g : FF) (u : VV), Rel f v g u → J κ 66 1015 (wM G h f v ++ wE G h5 g u) 1156 [(0, .ref b), (1, .ref (h 0)), (2, .ref (h5 0)), (3, .int x3)] []) : J κ 66 1015 (wM G h f v ++ wE G h5 g u) 466 [(0, .ref b), (1, .ref (h 0)), (2, .ref (h5 0)), (3, .int x3)] [] := by
  have hq := hop (xs (x3 + 1).toNatClampNeg) (xs (x3 + 2).toNatClampNeg) f v g u hrel
  refine j_aload_n 467 C dL_law_466 rfl 1 rfl ?_
  refine j_aload_n 468 C dL_law_467 rfl 0 rfl ?_
  refine j_iload_n 469 C dL_law_468 rfl 3 rfl ?_
  refine j_iconst 470 C dL_law_469 rfl ic_1 ?_
  refine j_iadd 471 C dL_law_470 rfl ?_
  refine j_sld 472 C hX hbl hbA hi1 dL_law_471 rfl ?_
  refine j_aload_n 473 C dL_law_472 rfl 0 rfl ?_
  refine j_iload_n 474 C dL_law_473 rfl 3 rfl ?_
  refine j_iconst 475 C dL_law_474 rfl ic_2 ?_
  refine j_iadd 476 C dL_law_475 rfl ?_
  refine j_sld 477 C hX hbl hbA hi2 dL_law_476 rfl ?_
  refine j_callVi 480 C [] (wE G h5 g u) (fun f' v' => wM G h f' v' ++ wE G h5 g u) (As := [.int (xs (x3 + 1).toNatClampNeg), .int (xs (x3 + 2).toNatClampNeg)]) (m_X4_state G h (xs (x3 + 1).toNatClampNeg) (xs (x3 + 2).toNatClampNeg) f v hq) oX4_state kL_48 ⟨rfl, rfl⟩ eX4_state ⟨Nat.le_of_ble_eq_true rfl, Nat.le_of_ble_eq_true rfl⟩ ⟨Nat.le_of_ble_eq_true rfl, Nat.le_of_ble_eq_true rfl⟩ rfl (fun _ _ => rfl) (fun _ _ => rfl) 0 rfl rfl rfl (Nat.le_of_ble_eq_true rfl) dL_law_477 rfl (fun r1 f1 v1 hq => ?_)
  refine j_pop 481 C dL_law_480 rfl rfl ?_
  refine j_aload_n 482 C dL_law_481 rfl 2 rfl ?_
  refine j_aload_n 483 C dL_law_482 rfl 0 rfl ?_
  refine j_iload_n 484 C dL_law_483 rfl 3 rfl ?_
  refine j_iconst 485 C dL_law_484 rfl ic_1 ?_
  refine j_iadd 486 C dL_law_485 rfl ?_
  refine j_sld 487 C hX hbl hbA hi1 dL_law_486 rfl ?_
  refine j_aload_n 488 C dL_law_487 rfl 0 rfl ?_
  refine j_iload_n 489 C dL_law_488 rfl 3 rfl ?_
  refine j_iconst 490 C dL_law_489 rfl ic_2 ?_
  refine j_iadd 491 C dL_law_490 rfl ?_
  refine j_sld 492 C hX hbl hbA hi2 dL_law_491 rfl ?_
  refine j_callVi 495 C (wM G h f1 v1) [] (fun g' u' => wM G h f1 v1 ++ wE G h5 g' u') (As := [.int (xs (x3 + 1).toNatClampNeg), .int (xs (x3 + 2).toNatClampNeg)]) (m_X5_state G h5 (xs (x3 + 1).toNatClampNeg) (xs (x3 + 2).toNatClampNeg) g u hq) oX5_state kL_51 ⟨rfl, rfl⟩ eX5_state ⟨Nat.le_of_ble_eq_true rfl, Nat.le_of_ble_eq_true rfl⟩ ⟨Nat.le_of_ble_eq_true rfl, Nat.le_of_ble_eq_true rfl⟩ (by rw [List.append_nil]) (fun _ _ => by rw [List.append_nil]) (fun _ _ => rfl) 0 rfl rfl rfl (Nat.le_of_ble_eq_true rfl) dL_law_492 rfl (fun r2 f2 v2 hq => ?_)
  refine j_pop 496 C dL_law_495 rfl rfl ?_
  refine j_goto 1156 C dL_law_496 rfl ?_
  exact K f1 v1 f2 v2 hq.2
set_option maxRecDepth 100000 in
set_option maxHeartbeats 4000000 in
theorem law_c9 {κ : Kx} {G : Gx} {h h5 : Nat → Nat} {b L : Nat} {xs : Nat → Int32} (C : Cx κ G RL cL_law room_1 4) (hX : va_X b L xs (ks κ) (ks κ).heap) (hbl : b < (ks κ).heap.size) (hbA : ¬ kA κ b) {E : Int32 → Int32 → Prop} {Rel : RelT} (hop : Op9 E Rel) {x3 : Int32} (hi1 : vp_in (x3 + 1) L) (hi2 : vp_in (x3 + 2) L) {f : FF} {v : VV} {g : FF} {u : VV} (hrel : Rel f v g u) (K : ∀ (f : FF) (v : VV) (g : FF) (u : VV), Rel f v g u → J κ 66 1015 (wM G h f v ++ wE G h5 g u) 1156 [(0, .ref b), (1, .ref (h 0)), (2, .ref (h5 0)), (3, .int x3)] []) : J κ 66 1015 (wM G h f v ++ wE G h5 g u) 499 [(0, .ref b), (1, .ref (h 0)), (2, .ref (h5 0)), (3, .int x3)] [] := by
  have hq := hop (xs (x3 + 1).toNatClampNeg) (xs (x3 + 2).toNatClampNeg) f v g u hrel
  refine j_aload_n 500 C dL_law_499 rfl 1 rfl ?_
  refine j_aload_n 501 C dL_law_500 rfl 0 rfl ?_
  refine j_iload_n 502 C dL_law_501 rfl 3 rfl ?_
  refine j_iconst 503 C dL_law_502 rfl ic_1 ?_
  refine j_iadd 504 C dL_law_503 rfl ?_
  refine j_sld 505 C hX hbl hbA hi1 dL_law_504 rfl ?_
  refine j_aload_n 506 C dL_law_505 rfl 0 rfl ?_
  refine j_iload_n 507 C dL_law_506 rfl 3 rfl ?_
  refine j_iconst 508 C dL_law_507 rfl ic_2 ?_
  refine j_iadd 509 C dL_law_508 rfl ?_
  refine j_sld 510 C hX hbl hbA hi2 dL_law_509 rfl ?_
  refine j_callVi 513 C [] (wE G h5 g u) (fun f' v' => wM G h f' v' ++ wE G h5 g u) (As := [.int (xs (x3 + 1).toNatClampNeg), .int (xs (x3 + 2).toNatClampNeg)]) (m_X4_subsumes G h (xs (x3 + 1).toNatClampNeg) (xs (x3 + 2).toNatClampNeg) f v hq) oX4_subsumes kL_52 ⟨rfl, rfl⟩ eX4_subsumes ⟨Nat.le_of_ble_eq_true rfl, Nat.le_of_ble_eq_true rfl⟩ ⟨Nat.le_of_ble_eq_true rfl, Nat.le_of_ble_eq_true rfl⟩ rfl (fun _ _ => rfl) (fun _ _ => rfl) 0 rfl rfl rfl (Nat.le_of_ble_eq_true rfl) dL_law_510 rfl (fun r1 f1 v1 hq => ?_)
  refine j_pop 514 C dL_law_513 rfl rfl ?_
  refine j_aload_n 515 C dL_law_514 rfl 2 rfl ?_
  refine j_aload_n 516 C dL_law_515 rfl 0 rfl ?_
  refine j_iload_n 517 C dL_law_516 rfl 3 rfl ?_
  refine j_iconst 518 C dL_law_517 rfl ic_1 ?_
  refine j_iadd 519 C dL_law_518 rfl ?_
  refine j_sld 520 C hX hbl hbA hi1 dL_law_519 rfl ?_
  refine j_aload_n 521 C dL_law_520 rfl 0 rfl ?_
  refine j_iload_n 522 C dL_law_521 rfl 3 rfl ?_
  refine j_iconst 523 C dL_law_522 rfl ic_2 ?_
  refine j_iadd 524 C dL_law_523 rfl ?_
  refine j_sld 525 C hX hbl hbA hi2 dL_law_524 rfl ?_
  refine j_callVi 528 C (wM G h f1 v1) [] (fun g' u' => wM G h f1 v1 ++ wE G h5 g' u') (As := [.int (xs (x3 + 1).toNatClampNeg), .int (xs (x3 + 2).toNatClampNeg)]) (m_X5_subsumes G h5 (xs (x3 + 1).toNatClampNeg) (xs (x3 + 2).toNatClampNeg) g u hq) oX5_subsumes kL_55 ⟨rfl, rfl⟩ eX5_subsumes ⟨Nat.le_of_ble_eq_true rfl, Nat.le_of_ble_eq_true rfl⟩ ⟨Nat.le_of_ble_eq_true rfl, Nat.le_of_ble_eq_true rfl⟩ (by rw [List.append_nil]) (fun _ _ => by rw [List.append_nil]) (fun _ _ => rfl) 0 rfl rfl rfl (Nat.le_of_ble_eq_true rfl) dL_law_525 rfl (fun r2 f2 v2 hq => ?_)
  refine j_pop 529 C dL_law_528 rfl rfl ?_
  refine j_goto 1156 C dL_law_529 rfl ?_
  exact K f1 v1 f2 v2 hq.2
set_option maxRecDepth 100000 in
set_option maxHeartbeats 4000000 in
theorem law_c10 {κ : Kx} {G : Gx} {h h5 : Nat → Nat} {b L : Nat} {xs : Nat → Int32} (C : Cx κ G RL cL_law room_1 4) (hX : va_X b L xs (ks κ) (ks κ).heap) (hbl : b < (ks κ).heap.size) (hbA : ¬ kA κ b) {E : Int32 → Int32 → Prop} {Rel : RelT} (hop : Op10 E Rel) {x3 : Int32} {f : FF} {v : VV} {g : FF} {u : VV} (hrel : Rel f v g u) (K : ∀ (f : FF) (v : VV) (g : FF) (u : VV), Rel f v g u → J κ 66 1015 (wM G h f v ++ wE G h5 g u) 1156 [(0, .ref b), (1, .ref (h 0)), (2, .ref (h5 0)), (3, .int x3)] []) : J κ 66 1015 (wM G h f v ++ wE G h5 g u) 532 [(0, .ref b), (1, .ref (h 0)), (2, .ref (h5 0)), (3, .int x3)] [] := by
  have hq := hop  f v g u hrel
  refine j_aload_n 533 C dL_law_532 rfl 1 rfl ?_
  refine j_callVi 536 C [] (wE G h5 g u) (fun f' v' => wM G h f' v' ++ wE G h5 g u) (As := []) (m_X4_hardest G h f v hq) oX4_hardest kL_56 ⟨rfl, rfl⟩ eX4_hardest ⟨Nat.le_of_ble_eq_true rfl, Nat.le_of_ble_eq_true rfl⟩ ⟨Nat.le_of_ble_eq_true rfl, Nat.le_of_ble_eq_true rfl⟩ rfl (fun _ _ => rfl) (fun _ _ => rfl) 0 rfl rfl rfl (Nat.le_of_ble_eq_true rfl) dL_law_533 rfl (fun r1 f1 v1 hq => ?_)
  refine j_pop 537 C dL_law_536 rfl rfl ?_
  refine j_aload_n 538 C dL_law_537 rfl 2 rfl ?_
  refine j_callVi 541 C (wM G h f1 v1) [] (fun g' u' => wM G h f1 v1 ++ wE G h5 g' u') (As := []) (m_X5_hardest G h5 g u hq) oX5_hardest kL_60 ⟨rfl, rfl⟩ eX5_hardest ⟨Nat.le_of_ble_eq_true rfl, Nat.le_of_ble_eq_true rfl⟩ ⟨Nat.le_of_ble_eq_true rfl, Nat.le_of_ble_eq_true rfl⟩ (by rw [List.append_nil]) (fun _ _ => by rw [List.append_nil]) (fun _ _ => rfl) 0 rfl rfl rfl (Nat.le_of_ble_eq_true rfl) dL_law_538 rfl (fun r2 f2 v2 hq => ?_)
  refine j_pop 542 C dL_law_541 rfl rfl ?_
  refine j_goto 1156 C dL_law_542 rfl ?_
  exact K f1 v1 f2 v2 hq.2
set_option maxRecDepth 100000 in
set_option maxHeartbeats 4000000 in
theorem law_c11 {κ : Kx} {G : Gx} {h h5 : Nat → Nat} {b L : Nat} {xs : Nat → Int32} (C : Cx κ G RL cL_law room_1 4) (hX : va_X b L xs (ks κ) (ks κ).heap) (hbl : b < (ks κ).heap.size) (hbA : ¬ kA κ b) {E : Int32 → Int32 → Prop} {Rel : RelT} (hop : Op11 E Rel) {x3 : Int32} (hi1 : vp_in (x3 + 1) L) (hi2 : vp_in (x3 + 2) L) (hi3 : vp_in (x3 + 3) L) (hi4 : vp_in (x3 + 4) L) (hi5 : vp_in (x3 + 5) L) {f : FF} {v : VV} {g : FF} {u : VV} (hrel : Rel f v g u) (K : ∀ (f : FF) (v : VV) (g : FF) (u : VV), Rel f v g u → J κ 66 1015 (wM G h f v ++ wE G h5 g u) 1156 [(0, .ref b), (1, .ref (h 0)), (2, .ref (h5 0)), (3, .int x3)] []) : J κ 66 1015 (wM G h f v ++ wE G h5 g u) 545 [(0, .ref b), (1, .ref (h 0)), (2, .ref (h5 0)), (3, .int x3)] [] := by
  have hq := hop (xs (x3 + 1).toNatClampNeg) (xs (x3 + 2).toNatClampNeg) (xs (x3 + 3).toNatClampNeg) (xs (x3 + 4).toNatClampNeg) (xs (x3 + 5).toNatClampNeg) f v g u hrel
  refine j_aload_n 546 C dL_law_545 rfl 1 rfl ?_
  refine j_aload_n 547 C dL_law_546 rfl 0 rfl ?_
  refine j_iload_n 548 C dL_law_547 rfl 3 rfl ?_
  refine j_iconst 549 C dL_law_548 rfl ic_1 ?_
  refine j_iadd 550 C dL_law_549 rfl ?_
  refine j_sld 551 C hX hbl hbA hi1 dL_law_550 rfl ?_
  refine j_aload_n 552 C dL_law_551 rfl 0 rfl ?_
  refine j_iload_n 553 C dL_law_552 rfl 3 rfl ?_
  refine j_iconst 554 C dL_law_553 rfl ic_2 ?_
  refine j_iadd 555 C dL_law_554 rfl ?_
  refine j_sld 556 C hX hbl hbA hi2 dL_law_555 rfl ?_
  refine j_aload_n 557 C dL_law_556 rfl 0 rfl ?_
  refine j_iload_n 558 C dL_law_557 rfl 3 rfl ?_
  refine j_iconst 559 C dL_law_558 rfl ic_3 ?_
  refine j_iadd 560 C dL_law_559 rfl ?_
  refine j_sld 561 C hX hbl hbA hi3 dL_law_560 rfl ?_
  refine j_aload_n 562 C dL_law_561 rfl 0 rfl ?_
  refine j_iload_n 563 C dL_law_562 rfl 3 rfl ?_
  refine j_iconst 564 C dL_law_563 rfl ic_4 ?_
  refine j_iadd 565 C dL_law_564 rfl ?_
  refine j_sld 566 C hX hbl hbA hi4 dL_law_565 rfl ?_
  refine j_aload_n 567 C dL_law_566 rfl 0 rfl ?_
  refine j_iload_n 568 C dL_law_567 rfl 3 rfl ?_
  refine j_iconst 569 C dL_law_568 rfl ic_5 ?_
  refine j_iadd 570 C dL_law_569 rfl ?_
  refine j_sld 571 C hX hbl hbA hi5 dL_law_570 rfl ?_
  refine j_callVi 574 C [] (wE G h5 g u) (fun f' v' => wM G h f' v' ++ wE G h5 g u) (As := [.int (xs (x3 + 1).toNatClampNeg), .int (xs (x3 + 2).toNatClampNeg), .int (xs (x3 + 3).toNatClampNeg), .int (xs (x3 + 4).toNatClampNeg), .int (xs (x3 + 5).toNatClampNeg)]) (m_X4_day G h (xs (x3 + 1).toNatClampNeg) (xs (x3 + 2).toNatClampNeg) (xs (x3 + 3).toNatClampNeg) (xs (x3 + 4).toNatClampNeg) (xs (x3 + 5).toNatClampNeg) f v hq) oX4_day kL_61 ⟨rfl, rfl⟩ eX4_day ⟨Nat.le_of_ble_eq_true rfl, Nat.le_of_ble_eq_true rfl⟩ ⟨Nat.le_of_ble_eq_true rfl, Nat.le_of_ble_eq_true rfl⟩ rfl (fun _ _ => rfl) (fun _ _ => rfl) 0 rfl rfl rfl (Nat.le_of_ble_eq_true rfl) dL_law_571 rfl (fun r1 f1 v1 hq => ?_)
  refine j_pop 575 C dL_law_574 rfl rfl ?_
  refine j_aload_n 576 C dL_law_575 rfl 2 rfl ?_
  refine j_aload_n 577 C dL_law_576 rfl 0 rfl ?_
  refine j_iload_n 578 C dL_law_577 rfl 3 rfl ?_
  refine j_iconst 579 C dL_law_578 rfl ic_1 ?_
  refine j_iadd 580 C dL_law_579 rfl ?_
  refine j_sld 581 C hX hbl hbA hi1 dL_law_580 rfl ?_
  refine j_aload_n 582 C dL_law_581 rfl 0 rfl ?_
  refine j_iload_n 583 C dL_law_582 rfl 3 rfl ?_
  refine j_iconst 584 C dL_law_583 rfl ic_2 ?_
  refine j_iadd 585 C dL_law_584 rfl ?_
  refine j_sld 586 C hX hbl hbA hi2 dL_law_585 rfl ?_
  refine j_aload_n 587 C dL_law_586 rfl 0 rfl ?_
  refine j_iload_n 588 C dL_law_587 rfl 3 rfl ?_
  refine j_iconst 589 C dL_law_588 rfl ic_3 ?_
  refine j_iadd 590 C dL_law_589 rfl ?_
  refine j_sld 591 C hX hbl hbA hi3 dL_law_590 rfl ?_
  refine j_aload_n 592 C dL_law_591 rfl 0 rfl ?_
  refine j_iload_n 593 C dL_law_592 rfl 3 rfl ?_
  refine j_iconst 594 C dL_law_593 rfl ic_4 ?_
  refine j_iadd 595 C dL_law_594 rfl ?_
  refine j_sld 596 C hX hbl hbA hi4 dL_law_595 rfl ?_
  refine j_aload_n 597 C dL_law_596 rfl 0 rfl ?_
  refine j_iload_n 598 C dL_law_597 rfl 3 rfl ?_
  refine j_iconst 599 C dL_law_598 rfl ic_5 ?_
  refine j_iadd 600 C dL_law_599 rfl ?_
  refine j_sld 601 C hX hbl hbA hi5 dL_law_600 rfl ?_
  refine j_callVi 604 C (wM G h f1 v1) [] (fun g' u' => wM G h f1 v1 ++ wE G h5 g' u') (As := [.int (xs (x3 + 1).toNatClampNeg), .int (xs (x3 + 2).toNatClampNeg), .int (xs (x3 + 3).toNatClampNeg), .int (xs (x3 + 4).toNatClampNeg), .int (xs (x3 + 5).toNatClampNeg)]) (m_X5_day G h5 (xs (x3 + 1).toNatClampNeg) (xs (x3 + 2).toNatClampNeg) (xs (x3 + 3).toNatClampNeg) (xs (x3 + 4).toNatClampNeg) (xs (x3 + 5).toNatClampNeg) g u hq) oX5_day kL_65 ⟨rfl, rfl⟩ eX5_day ⟨Nat.le_of_ble_eq_true rfl, Nat.le_of_ble_eq_true rfl⟩ ⟨Nat.le_of_ble_eq_true rfl, Nat.le_of_ble_eq_true rfl⟩ (by rw [List.append_nil]) (fun _ _ => by rw [List.append_nil]) (fun _ _ => rfl) 0 rfl rfl rfl (Nat.le_of_ble_eq_true rfl) dL_law_601 rfl (fun r2 f2 v2 hq => ?_)
  refine j_pop 605 C dL_law_604 rfl rfl ?_
  refine j_goto 1156 C dL_law_605 rfl ?_
  exact K f1 v1 f2 v2 hq.2
set_option maxRecDepth 100000 in
set_option maxHeartbeats 4000000 in
theorem law_c12 {κ : Kx} {G : Gx} {h h5 : Nat → Nat} {b L : Nat} {xs : Nat → Int32} (C : Cx κ G RL cL_law room_1 4) (hX : va_X b L xs (ks κ) (ks κ).heap) (hbl : b < (ks κ).heap.size) (hbA : ¬ kA κ b) {E : Int32 → Int32 → Prop} {Rel : RelT} (hop : Op12 E Rel) {x3 : Int32} (hi1 : vp_in (x3 + 1) L) {f : FF} {v : VV} {g : FF} {u : VV} (hrel : Rel f v g u) (K : ∀ (f : FF) (v : VV) (g : FF) (u : VV), Rel f v g u → J κ 66 1015 (wM G h f v ++ wE G h5 g u) 1156 [(0, .ref b), (1, .ref (h 0)), (2, .ref (h5 0)), (3, .int x3)] []) : J κ 66 1015 (wM G h f v ++ wE G h5 g u) 608 [(0, .ref b), (1, .ref (h 0)), (2, .ref (h5 0)), (3, .int x3)] [] := by
  have hq := hop (xs (x3 + 1).toNatClampNeg) f v g u hrel
  refine j_aload_n 609 C dL_law_608 rfl 1 rfl ?_
  refine j_aload_n 610 C dL_law_609 rfl 0 rfl ?_
  refine j_iload_n 611 C dL_law_610 rfl 3 rfl ?_
  refine j_iconst 612 C dL_law_611 rfl ic_1 ?_
  refine j_iadd 613 C dL_law_612 rfl ?_
  refine j_sld 614 C hX hbl hbA hi1 dL_law_613 rfl ?_
  refine j_callVi 617 C [] (wE G h5 g u) (fun f' v' => wM G h f' v' ++ wE G h5 g u) (As := [.int (xs (x3 + 1).toNatClampNeg)]) (m_X4_cover G h (xs (x3 + 1).toNatClampNeg) f v hq) oX4_cover kL_66 ⟨rfl, rfl⟩ eX4_cover ⟨Nat.le_of_ble_eq_true rfl, Nat.le_of_ble_eq_true rfl⟩ ⟨Nat.le_of_ble_eq_true rfl, Nat.le_of_ble_eq_true rfl⟩ rfl (fun _ _ => rfl) (fun _ _ => rfl) 0 rfl rfl rfl (Nat.le_of_ble_eq_true rfl) dL_law_614 rfl (fun r1 f1 v1 hq => ?_)
  refine j_pop 618 C dL_law_617 rfl rfl ?_
  refine j_aload_n 619 C dL_law_618 rfl 2 rfl ?_
  refine j_aload_n 620 C dL_law_619 rfl 0 rfl ?_
  refine j_iload_n 621 C dL_law_620 rfl 3 rfl ?_
  refine j_iconst 622 C dL_law_621 rfl ic_1 ?_
  refine j_iadd 623 C dL_law_622 rfl ?_
  refine j_sld 624 C hX hbl hbA hi1 dL_law_623 rfl ?_
  refine j_callVi 627 C (wM G h f1 v1) [] (fun g' u' => wM G h f1 v1 ++ wE G h5 g' u') (As := [.int (xs (x3 + 1).toNatClampNeg)]) (m_X5_cover G h5 (xs (x3 + 1).toNatClampNeg) g u hq) oX5_cover kL_70 ⟨rfl, rfl⟩ eX5_cover ⟨Nat.le_of_ble_eq_true rfl, Nat.le_of_ble_eq_true rfl⟩ ⟨Nat.le_of_ble_eq_true rfl, Nat.le_of_ble_eq_true rfl⟩ (by rw [List.append_nil]) (fun _ _ => by rw [List.append_nil]) (fun _ _ => rfl) 0 rfl rfl rfl (Nat.le_of_ble_eq_true rfl) dL_law_624 rfl (fun r2 f2 v2 hq => ?_)
  refine j_pop 628 C dL_law_627 rfl rfl ?_
  refine j_goto 1156 C dL_law_628 rfl ?_
  exact K f1 v1 f2 v2 hq.2
set_option maxRecDepth 100000 in
set_option maxHeartbeats 4000000 in
theorem law_c13 {κ : Kx} {G : Gx} {h h5 : Nat → Nat} {b L : Nat} {xs : Nat → Int32} (C : Cx κ G RL cL_law room_1 4) (hX : va_X b L xs (ks κ) (ks κ).heap) (hbl : b < (ks κ).heap.size) (hbA : ¬ kA κ b) {E : Int32 → Int32 → Prop} {Rel : RelT} (hop : Op13 E Rel) {x3 : Int32} (hi1 : vp_in (x3 + 1) L) (hi2 : vp_in (x3 + 2) L) {f : FF} {v : VV} {g : FF} {u : VV} (hrel : Rel f v g u) (K : ∀ (f : FF) (v : VV) (g : FF) (u : VV), Rel f v g u → J κ 66 1015 (wM G h f v ++ wE G h5 g u) 1156 [(0, .ref b), (1, .ref (h 0)), (2, .ref (h5 0)), (3, .int x3)] []) : J κ 66 1015 (wM G h f v ++ wE G h5 g u) 631 [(0, .ref b), (1, .ref (h 0)), (2, .ref (h5 0)), (3, .int x3)] [] := by
  have hq := hop (xs (x3 + 1).toNatClampNeg) (xs (x3 + 2).toNatClampNeg) f v g u hrel
  refine j_aload_n 632 C dL_law_631 rfl 1 rfl ?_
  refine j_aload_n 633 C dL_law_632 rfl 0 rfl ?_
  refine j_iload_n 634 C dL_law_633 rfl 3 rfl ?_
  refine j_iconst 635 C dL_law_634 rfl ic_1 ?_
  refine j_iadd 636 C dL_law_635 rfl ?_
  refine j_sld 637 C hX hbl hbA hi1 dL_law_636 rfl ?_
  refine j_aload_n 638 C dL_law_637 rfl 0 rfl ?_
  refine j_iload_n 639 C dL_law_638 rfl 3 rfl ?_
  refine j_iconst 640 C dL_law_639 rfl ic_2 ?_
  refine j_iadd 641 C dL_law_640 rfl ?_
  refine j_sld 642 C hX hbl hbA hi2 dL_law_641 rfl ?_
  refine j_callVi 645 C [] (wE G h5 g u) (fun f' v' => wM G h f' v' ++ wE G h5 g u) (As := [.int (xs (x3 + 1).toNatClampNeg), .int (xs (x3 + 2).toNatClampNeg)]) (m_X4_choose G h (xs (x3 + 1).toNatClampNeg) (xs (x3 + 2).toNatClampNeg) f v hq) oX4_choose kL_71 ⟨rfl, rfl⟩ eX4_choose ⟨Nat.le_of_ble_eq_true rfl, Nat.le_of_ble_eq_true rfl⟩ ⟨Nat.le_of_ble_eq_true rfl, Nat.le_of_ble_eq_true rfl⟩ rfl (fun _ _ => rfl) (fun _ _ => rfl) 0 rfl rfl rfl (Nat.le_of_ble_eq_true rfl) dL_law_642 rfl (fun r1 f1 v1 hq => ?_)
  refine j_pop 646 C dL_law_645 rfl rfl ?_
  refine j_aload_n 647 C dL_law_646 rfl 2 rfl ?_
  refine j_aload_n 648 C dL_law_647 rfl 0 rfl ?_
  refine j_iload_n 649 C dL_law_648 rfl 3 rfl ?_
  refine j_iconst 650 C dL_law_649 rfl ic_1 ?_
  refine j_iadd 651 C dL_law_650 rfl ?_
  refine j_sld 652 C hX hbl hbA hi1 dL_law_651 rfl ?_
  refine j_aload_n 653 C dL_law_652 rfl 0 rfl ?_
  refine j_iload_n 654 C dL_law_653 rfl 3 rfl ?_
  refine j_iconst 655 C dL_law_654 rfl ic_2 ?_
  refine j_iadd 656 C dL_law_655 rfl ?_
  refine j_sld 657 C hX hbl hbA hi2 dL_law_656 rfl ?_
  refine j_callVi 660 C (wM G h f1 v1) [] (fun g' u' => wM G h f1 v1 ++ wE G h5 g' u') (As := [.int (xs (x3 + 1).toNatClampNeg), .int (xs (x3 + 2).toNatClampNeg)]) (m_X5_choose G h5 (xs (x3 + 1).toNatClampNeg) (xs (x3 + 2).toNatClampNeg) g u hq) oX5_choose kL_74 ⟨rfl, rfl⟩ eX5_choose ⟨Nat.le_of_ble_eq_true rfl, Nat.le_of_ble_eq_true rfl⟩ ⟨Nat.le_of_ble_eq_true rfl, Nat.le_of_ble_eq_true rfl⟩ (by rw [List.append_nil]) (fun _ _ => by rw [List.append_nil]) (fun _ _ => rfl) 0 rfl rfl rfl (Nat.le_of_ble_eq_true rfl) dL_law_657 rfl (fun r2 f2 v2 hq => ?_)
  refine j_pop 661 C dL_law_660 rfl rfl ?_
  refine j_goto 1156 C dL_law_661 rfl ?_
  exact K f1 v1 f2 v2 hq.2
set_option maxRecDepth 100000 in
set_option maxHeartbeats 4000000 in
theorem law_c14 {κ : Kx} {G : Gx} {h h5 : Nat → Nat} {b L : Nat} {xs : Nat → Int32} (C : Cx κ G RL cL_law room_1 4) (hX : va_X b L xs (ks κ) (ks κ).heap) (hbl : b < (ks κ).heap.size) (hbA : ¬ kA κ b) {E : Int64 → Int64 → Prop} {Rel : RelT} (hop : Op14 E Rel) {x3 : Int32} (hi1 : vp_in (x3 + 1) L) {f : FF} {v : VV} {g : FF} {u : VV} (hrel : Rel f v g u) (K : ∀ (f : FF) (v : VV) (g : FF) (u : VV), Rel f v g u → J κ 66 1015 (wM G h f v ++ wE G h5 g u) 1156 [(0, .ref b), (1, .ref (h 0)), (2, .ref (h5 0)), (3, .int x3)] []) : J κ 66 1015 (wM G h f v ++ wE G h5 g u) 664 [(0, .ref b), (1, .ref (h 0)), (2, .ref (h5 0)), (3, .int x3)] [] := by
  have hq := hop (xs (x3 + 1).toNatClampNeg) f v g u hrel
  refine j_aload_n 665 C dL_law_664 rfl 1 rfl ?_
  refine j_aload_n 666 C dL_law_665 rfl 0 rfl ?_
  refine j_iload_n 667 C dL_law_666 rfl 3 rfl ?_
  refine j_iconst 668 C dL_law_667 rfl ic_1 ?_
  refine j_iadd 669 C dL_law_668 rfl ?_
  refine j_sld 670 C hX hbl hbA hi1 dL_law_669 rfl ?_
  refine j_callVl 673 C [] (wE G h5 g u) (fun f' v' => wM G h f' v' ++ wE G h5 g u) (As := [.int (xs (x3 + 1).toNatClampNeg)]) (m_X4_score G h (xs (x3 + 1).toNatClampNeg) f v hq) oX4_score kL_75 ⟨rfl, rfl⟩ eX4_score ⟨Nat.le_of_ble_eq_true rfl, Nat.le_of_ble_eq_true rfl⟩ ⟨Nat.le_of_ble_eq_true rfl, Nat.le_of_ble_eq_true rfl⟩ rfl (fun _ _ => rfl) (fun _ _ => rfl) 0 rfl rfl rfl (Nat.le_of_ble_eq_true rfl) dL_law_670 rfl (fun r1 f1 v1 hq => ?_)
  refine j_pop2 674 C dL_law_673 rfl rfl ?_
  refine j_aload_n 675 C dL_law_674 rfl 2 rfl ?_
  refine j_aload_n 676 C dL_law_675 rfl 0 rfl ?_
  refine j_iload_n 677 C dL_law_676 rfl 3 rfl ?_
  refine j_iconst 678 C dL_law_677 rfl ic_1 ?_
  refine j_iadd 679 C dL_law_678 rfl ?_
  refine j_sld 680 C hX hbl hbA hi1 dL_law_679 rfl ?_
  refine j_callVl 683 C (wM G h f1 v1) [] (fun g' u' => wM G h f1 v1 ++ wE G h5 g' u') (As := [.int (xs (x3 + 1).toNatClampNeg)]) (m_X5_score G h5 (xs (x3 + 1).toNatClampNeg) g u hq) oX5_score kL_79 ⟨rfl, rfl⟩ eX5_score ⟨Nat.le_of_ble_eq_true rfl, Nat.le_of_ble_eq_true rfl⟩ ⟨Nat.le_of_ble_eq_true rfl, Nat.le_of_ble_eq_true rfl⟩ (by rw [List.append_nil]) (fun _ _ => by rw [List.append_nil]) (fun _ _ => rfl) 0 rfl rfl rfl (Nat.le_of_ble_eq_true rfl) dL_law_680 rfl (fun r2 f2 v2 hq => ?_)
  refine j_pop2 684 C dL_law_683 rfl rfl ?_
  refine j_goto 1156 C dL_law_684 rfl ?_
  exact K f1 v1 f2 v2 hq.2
set_option maxRecDepth 100000 in
set_option maxHeartbeats 4000000 in
theorem law_c15 {κ : Kx} {G : Gx} {h h5 : Nat → Nat} {b L : Nat} {xs : Nat → Int32} (C : Cx κ G RL cL_law room_1 4) (hX : va_X b L xs (ks κ) (ks κ).heap) (hbl : b < (ks κ).heap.size) (hbA : ¬ kA κ b) {E : Int32 → Int32 → Prop} {Rel : RelT} (hop : Op15 E Rel) {x3 : Int32} (hi1 : vp_in (x3 + 1) L) {f : FF} {v : VV} {g : FF} {u : VV} (hrel : Rel f v g u) (K : ∀ (f : FF) (v : VV) (g : FF) (u : VV), Rel f v g u → J κ 66 1015 (wM G h f v ++ wE G h5 g u) 1156 [(0, .ref b), (1, .ref (h 0)), (2, .ref (h5 0)), (3, .int x3)] []) : J κ 66 1015 (wM G h f v ++ wE G h5 g u) 687 [(0, .ref b), (1, .ref (h 0)), (2, .ref (h5 0)), (3, .int x3)] [] := by
  have hq := hop (xs (x3 + 1).toNatClampNeg) f v g u hrel
  refine j_aload_n 688 C dL_law_687 rfl 1 rfl ?_
  refine j_aload_n 689 C dL_law_688 rfl 0 rfl ?_
  refine j_iload_n 690 C dL_law_689 rfl 3 rfl ?_
  refine j_iconst 691 C dL_law_690 rfl ic_1 ?_
  refine j_iadd 692 C dL_law_691 rfl ?_
  refine j_sld 693 C hX hbl hbA hi1 dL_law_692 rfl ?_
  refine j_callVi 696 C [] (wE G h5 g u) (fun f' v' => wM G h f' v' ++ wE G h5 g u) (As := [.int (xs (x3 + 1).toNatClampNeg)]) (m_X4_reading G h (xs (x3 + 1).toNatClampNeg) f v hq) oX4_reading kL_80 ⟨rfl, rfl⟩ eX4_reading ⟨Nat.le_of_ble_eq_true rfl, Nat.le_of_ble_eq_true rfl⟩ ⟨Nat.le_of_ble_eq_true rfl, Nat.le_of_ble_eq_true rfl⟩ rfl (fun _ _ => rfl) (fun _ _ => rfl) 0 rfl rfl rfl (Nat.le_of_ble_eq_true rfl) dL_law_693 rfl (fun r1 f1 v1 hq => ?_)
  refine j_pop 697 C dL_law_696 rfl rfl ?_
  refine j_aload_n 698 C dL_law_697 rfl 2 rfl ?_
  refine j_aload_n 699 C dL_law_698 rfl 0 rfl ?_
  refine j_iload_n 700 C dL_law_699 rfl 3 rfl ?_
  refine j_iconst 701 C dL_law_700 rfl ic_1 ?_
  refine j_iadd 702 C dL_law_701 rfl ?_
  refine j_sld 703 C hX hbl hbA hi1 dL_law_702 rfl ?_
  refine j_callVi 706 C (wM G h f1 v1) [] (fun g' u' => wM G h f1 v1 ++ wE G h5 g' u') (As := [.int (xs (x3 + 1).toNatClampNeg)]) (m_X5_reading G h5 (xs (x3 + 1).toNatClampNeg) g u hq) oX5_reading kL_83 ⟨rfl, rfl⟩ eX5_reading ⟨Nat.le_of_ble_eq_true rfl, Nat.le_of_ble_eq_true rfl⟩ ⟨Nat.le_of_ble_eq_true rfl, Nat.le_of_ble_eq_true rfl⟩ (by rw [List.append_nil]) (fun _ _ => by rw [List.append_nil]) (fun _ _ => rfl) 0 rfl rfl rfl (Nat.le_of_ble_eq_true rfl) dL_law_703 rfl (fun r2 f2 v2 hq => ?_)
  refine j_pop 707 C dL_law_706 rfl rfl ?_
  refine j_goto 1156 C dL_law_707 rfl ?_
  exact K f1 v1 f2 v2 hq.2
set_option maxRecDepth 100000 in
set_option maxHeartbeats 4000000 in
theorem law_c16 {κ : Kx} {G : Gx} {h h5 : Nat → Nat} {b L : Nat} {xs : Nat → Int32} (C : Cx κ G RL cL_law room_1 4) (hX : va_X b L xs (ks κ) (ks κ).heap) (hbl : b < (ks κ).heap.size) (hbA : ¬ kA κ b) {E : Int32 → Int32 → Prop} {Rel : RelT} (hop : Op16 E Rel) {x3 : Int32} (hi1 : vp_in (x3 + 1) L) {f : FF} {v : VV} {g : FF} {u : VV} (hrel : Rel f v g u) (K : ∀ (f : FF) (v : VV) (g : FF) (u : VV), Rel f v g u → J κ 66 1015 (wM G h f v ++ wE G h5 g u) 1156 [(0, .ref b), (1, .ref (h 0)), (2, .ref (h5 0)), (3, .int x3)] []) : J κ 66 1015 (wM G h f v ++ wE G h5 g u) 710 [(0, .ref b), (1, .ref (h 0)), (2, .ref (h5 0)), (3, .int x3)] [] := by
  have hq := hop (xs (x3 + 1).toNatClampNeg) f v g u hrel
  refine j_aload_n 711 C dL_law_710 rfl 1 rfl ?_
  refine j_aload_n 712 C dL_law_711 rfl 0 rfl ?_
  refine j_iload_n 713 C dL_law_712 rfl 3 rfl ?_
  refine j_iconst 714 C dL_law_713 rfl ic_1 ?_
  refine j_iadd 715 C dL_law_714 rfl ?_
  refine j_sld 716 C hX hbl hbA hi1 dL_law_715 rfl ?_
  refine j_callVi 719 C [] (wE G h5 g u) (fun f' v' => wM G h f' v' ++ wE G h5 g u) (As := [.int (xs (x3 + 1).toNatClampNeg)]) (m_X4_back G h (xs (x3 + 1).toNatClampNeg) f v hq) oX4_back kL_84 ⟨rfl, rfl⟩ eX4_back ⟨Nat.le_of_ble_eq_true rfl, Nat.le_of_ble_eq_true rfl⟩ ⟨Nat.le_of_ble_eq_true rfl, Nat.le_of_ble_eq_true rfl⟩ rfl (fun _ _ => rfl) (fun _ _ => rfl) 0 rfl rfl rfl (Nat.le_of_ble_eq_true rfl) dL_law_716 rfl (fun r1 f1 v1 hq => ?_)
  refine j_pop 720 C dL_law_719 rfl rfl ?_
  refine j_aload_n 721 C dL_law_720 rfl 2 rfl ?_
  refine j_aload_n 722 C dL_law_721 rfl 0 rfl ?_
  refine j_iload_n 723 C dL_law_722 rfl 3 rfl ?_
  refine j_iconst 724 C dL_law_723 rfl ic_1 ?_
  refine j_iadd 725 C dL_law_724 rfl ?_
  refine j_sld 726 C hX hbl hbA hi1 dL_law_725 rfl ?_
  refine j_callVi 729 C (wM G h f1 v1) [] (fun g' u' => wM G h f1 v1 ++ wE G h5 g' u') (As := [.int (xs (x3 + 1).toNatClampNeg)]) (m_X5_back G h5 (xs (x3 + 1).toNatClampNeg) g u hq) oX5_back kL_87 ⟨rfl, rfl⟩ eX5_back ⟨Nat.le_of_ble_eq_true rfl, Nat.le_of_ble_eq_true rfl⟩ ⟨Nat.le_of_ble_eq_true rfl, Nat.le_of_ble_eq_true rfl⟩ (by rw [List.append_nil]) (fun _ _ => by rw [List.append_nil]) (fun _ _ => rfl) 0 rfl rfl rfl (Nat.le_of_ble_eq_true rfl) dL_law_726 rfl (fun r2 f2 v2 hq => ?_)
  refine j_pop 730 C dL_law_729 rfl rfl ?_
  refine j_goto 1156 C dL_law_730 rfl ?_
  exact K f1 v1 f2 v2 hq.2
set_option maxRecDepth 100000 in
set_option maxHeartbeats 4000000 in
theorem law_c17 {κ : Kx} {G : Gx} {h h5 : Nat → Nat} {b L : Nat} {xs : Nat → Int32} (C : Cx κ G RL cL_law room_1 4) (hX : va_X b L xs (ks κ) (ks κ).heap) (hbl : b < (ks κ).heap.size) (hbA : ¬ kA κ b) {E : Int32 → Int32 → Prop} {Rel : RelT} (hop : Op17 E Rel) {x3 : Int32} (hi1 : vp_in (x3 + 1) L) {f : FF} {v : VV} {g : FF} {u : VV} (hrel : Rel f v g u) (K : ∀ (f : FF) (v : VV) (g : FF) (u : VV), Rel f v g u → J κ 66 1015 (wM G h f v ++ wE G h5 g u) 1156 [(0, .ref b), (1, .ref (h 0)), (2, .ref (h5 0)), (3, .int x3)] []) : J κ 66 1015 (wM G h f v ++ wE G h5 g u) 733 [(0, .ref b), (1, .ref (h 0)), (2, .ref (h5 0)), (3, .int x3)] [] := by
  have hq := hop (xs (x3 + 1).toNatClampNeg) f v g u hrel
  refine j_aload_n 734 C dL_law_733 rfl 1 rfl ?_
  refine j_aload_n 735 C dL_law_734 rfl 0 rfl ?_
  refine j_iload_n 736 C dL_law_735 rfl 3 rfl ?_
  refine j_iconst 737 C dL_law_736 rfl ic_1 ?_
  refine j_iadd 738 C dL_law_737 rfl ?_
  refine j_sld 739 C hX hbl hbA hi1 dL_law_738 rfl ?_
  refine j_callVi 742 C [] (wE G h5 g u) (fun f' v' => wM G h f' v' ++ wE G h5 g u) (As := [.int (xs (x3 + 1).toNatClampNeg)]) (m_X4_kinds G h (xs (x3 + 1).toNatClampNeg) f v hq) oX4_kinds kL_88 ⟨rfl, rfl⟩ eX4_kinds ⟨Nat.le_of_ble_eq_true rfl, Nat.le_of_ble_eq_true rfl⟩ ⟨Nat.le_of_ble_eq_true rfl, Nat.le_of_ble_eq_true rfl⟩ rfl (fun _ _ => rfl) (fun _ _ => rfl) 0 rfl rfl rfl (Nat.le_of_ble_eq_true rfl) dL_law_739 rfl (fun r1 f1 v1 hq => ?_)
  refine j_pop 743 C dL_law_742 rfl rfl ?_
  refine j_aload_n 744 C dL_law_743 rfl 2 rfl ?_
  refine j_aload_n 745 C dL_law_744 rfl 0 rfl ?_
  refine j_iload_n 746 C dL_law_745 rfl 3 rfl ?_
  refine j_iconst 747 C dL_law_746 rfl ic_1 ?_
  refine j_iadd 748 C dL_law_747 rfl ?_
  refine j_sld 749 C hX hbl hbA hi1 dL_law_748 rfl ?_
  refine j_callVi 752 C (wM G h f1 v1) [] (fun g' u' => wM G h f1 v1 ++ wE G h5 g' u') (As := [.int (xs (x3 + 1).toNatClampNeg)]) (m_X5_kinds G h5 (xs (x3 + 1).toNatClampNeg) g u hq) oX5_kinds kL_91 ⟨rfl, rfl⟩ eX5_kinds ⟨Nat.le_of_ble_eq_true rfl, Nat.le_of_ble_eq_true rfl⟩ ⟨Nat.le_of_ble_eq_true rfl, Nat.le_of_ble_eq_true rfl⟩ (by rw [List.append_nil]) (fun _ _ => by rw [List.append_nil]) (fun _ _ => rfl) 0 rfl rfl rfl (Nat.le_of_ble_eq_true rfl) dL_law_749 rfl (fun r2 f2 v2 hq => ?_)
  refine j_pop 753 C dL_law_752 rfl rfl ?_
  refine j_goto 1156 C dL_law_753 rfl ?_
  exact K f1 v1 f2 v2 hq.2
set_option maxRecDepth 100000 in
set_option maxHeartbeats 4000000 in
theorem law_c18 {κ : Kx} {G : Gx} {h h5 : Nat → Nat} {b L : Nat} {xs : Nat → Int32} (C : Cx κ G RL cL_law room_1 4) (hX : va_X b L xs (ks κ) (ks κ).heap) (hbl : b < (ks κ).heap.size) (hbA : ¬ kA κ b) {E : Int32 → Int32 → Prop} {Rel : RelT} (hop : Op18 E Rel) {x3 : Int32} (hi1 : vp_in (x3 + 1) L) {f : FF} {v : VV} {g : FF} {u : VV} (hrel : Rel f v g u) (K : ∀ (f : FF) (v : VV) (g : FF) (u : VV), Rel f v g u → J κ 66 1015 (wM G h f v ++ wE G h5 g u) 1156 [(0, .ref b), (1, .ref (h 0)), (2, .ref (h5 0)), (3, .int x3)] []) : J κ 66 1015 (wM G h f v ++ wE G h5 g u) 756 [(0, .ref b), (1, .ref (h 0)), (2, .ref (h5 0)), (3, .int x3)] [] := by
  have hq := hop (xs (x3 + 1).toNatClampNeg) f v g u hrel
  refine j_aload_n 757 C dL_law_756 rfl 1 rfl ?_
  refine j_aload_n 758 C dL_law_757 rfl 0 rfl ?_
  refine j_iload_n 759 C dL_law_758 rfl 3 rfl ?_
  refine j_iconst 760 C dL_law_759 rfl ic_1 ?_
  refine j_iadd 761 C dL_law_760 rfl ?_
  refine j_sld 762 C hX hbl hbA hi1 dL_law_761 rfl ?_
  refine j_callVi 765 C [] (wE G h5 g u) (fun f' v' => wM G h f' v' ++ wE G h5 g u) (As := [.int (xs (x3 + 1).toNatClampNeg)]) (m_X4_ways G h (xs (x3 + 1).toNatClampNeg) f v hq) oX4_ways kL_92 ⟨rfl, rfl⟩ eX4_ways ⟨Nat.le_of_ble_eq_true rfl, Nat.le_of_ble_eq_true rfl⟩ ⟨Nat.le_of_ble_eq_true rfl, Nat.le_of_ble_eq_true rfl⟩ rfl (fun _ _ => rfl) (fun _ _ => rfl) 0 rfl rfl rfl (Nat.le_of_ble_eq_true rfl) dL_law_762 rfl (fun r1 f1 v1 hq => ?_)
  refine j_pop 766 C dL_law_765 rfl rfl ?_
  refine j_aload_n 767 C dL_law_766 rfl 2 rfl ?_
  refine j_aload_n 768 C dL_law_767 rfl 0 rfl ?_
  refine j_iload_n 769 C dL_law_768 rfl 3 rfl ?_
  refine j_iconst 770 C dL_law_769 rfl ic_1 ?_
  refine j_iadd 771 C dL_law_770 rfl ?_
  refine j_sld 772 C hX hbl hbA hi1 dL_law_771 rfl ?_
  refine j_callVi 775 C (wM G h f1 v1) [] (fun g' u' => wM G h f1 v1 ++ wE G h5 g' u') (As := [.int (xs (x3 + 1).toNatClampNeg)]) (m_X5_ways G h5 (xs (x3 + 1).toNatClampNeg) g u hq) oX5_ways kL_95 ⟨rfl, rfl⟩ eX5_ways ⟨Nat.le_of_ble_eq_true rfl, Nat.le_of_ble_eq_true rfl⟩ ⟨Nat.le_of_ble_eq_true rfl, Nat.le_of_ble_eq_true rfl⟩ (by rw [List.append_nil]) (fun _ _ => by rw [List.append_nil]) (fun _ _ => rfl) 0 rfl rfl rfl (Nat.le_of_ble_eq_true rfl) dL_law_772 rfl (fun r2 f2 v2 hq => ?_)
  refine j_pop 776 C dL_law_775 rfl rfl ?_
  refine j_goto 1156 C dL_law_776 rfl ?_
  exact K f1 v1 f2 v2 hq.2
set_option maxRecDepth 100000 in
set_option maxHeartbeats 4000000 in
theorem law_c19 {κ : Kx} {G : Gx} {h h5 : Nat → Nat} {b L : Nat} {xs : Nat → Int32} (C : Cx κ G RL cL_law room_1 4) (hX : va_X b L xs (ks κ) (ks κ).heap) (hbl : b < (ks κ).heap.size) (hbA : ¬ kA κ b) {Rel : RelT} (hop : Op19 (fun r s => r = s) Rel) {x3 : Int32} (hi1 : vp_in (x3 + 1) L) (hi2 : vp_in (x3 + 2) L) {f : FF} {v : VV} {g : FF} {u : VV} (hrel : Rel f v g u) (K : ∀ (f : FF) (v : VV) (g : FF) (u : VV), Rel f v g u → J κ 66 1015 (wM G h f v ++ wE G h5 g u) 1156 [(0, .ref b), (1, .ref (h 0)), (2, .ref (h5 0)), (3, .int x3)] []) : J κ 66 1015 (wM G h f v ++ wE G h5 g u) 779 [(0, .ref b), (1, .ref (h 0)), (2, .ref (h5 0)), (3, .int x3)] [] := by
  have hq := hop (xs (x3 + 1).toNatClampNeg) (xs (x3 + 2).toNatClampNeg) f v g u hrel
  refine j_aload_n 780 C dL_law_779 rfl 1 rfl ?_
  refine j_aload_n 781 C dL_law_780 rfl 0 rfl ?_
  refine j_iload_n 782 C dL_law_781 rfl 3 rfl ?_
  refine j_iconst 783 C dL_law_782 rfl ic_1 ?_
  refine j_iadd 784 C dL_law_783 rfl ?_
  refine j_sld 785 C hX hbl hbA hi1 dL_law_784 rfl ?_
  refine j_aload_n 786 C dL_law_785 rfl 0 rfl ?_
  refine j_iload_n 787 C dL_law_786 rfl 3 rfl ?_
  refine j_iconst 788 C dL_law_787 rfl ic_2 ?_
  refine j_iadd 789 C dL_law_788 rfl ?_
  refine j_sld 790 C hX hbl hbA hi2 dL_law_789 rfl ?_
  refine j_callVl 793 C [] (wE G h5 g u) (fun f' v' => wM G h f' v' ++ wE G h5 g u) (As := [.int (xs (x3 + 1).toNatClampNeg), .int (xs (x3 + 2).toNatClampNeg)]) (m_X4_odds G h (xs (x3 + 1).toNatClampNeg) (xs (x3 + 2).toNatClampNeg) f v hq) oX4_odds kL_96 ⟨rfl, rfl⟩ eX4_odds ⟨Nat.le_of_ble_eq_true rfl, Nat.le_of_ble_eq_true rfl⟩ ⟨Nat.le_of_ble_eq_true rfl, Nat.le_of_ble_eq_true rfl⟩ rfl (fun _ _ => rfl) (fun _ _ => rfl) 0 rfl rfl rfl (Nat.le_of_ble_eq_true rfl) dL_law_790 rfl (fun r1 f1 v1 hq => ?_)
  refine j_aload_n 794 C dL_law_793 rfl 2 rfl ?_
  refine j_aload_n 795 C dL_law_794 rfl 0 rfl ?_
  refine j_iload_n 796 C dL_law_795 rfl 3 rfl ?_
  refine j_iconst 797 C dL_law_796 rfl ic_1 ?_
  refine j_iadd 798 C dL_law_797 rfl ?_
  refine j_sld 799 C hX hbl hbA hi1 dL_law_798 rfl ?_
  refine j_aload_n 800 C dL_law_799 rfl 0 rfl ?_
  refine j_iload_n 801 C dL_law_800 rfl 3 rfl ?_
  refine j_iconst 802 C dL_law_801 rfl ic_2 ?_
  refine j_iadd 803 C dL_law_802 rfl ?_
  refine j_sld 804 C hX hbl hbA hi2 dL_law_803 rfl ?_
  refine j_callVl 807 C (wM G h f1 v1) [] (fun g' u' => wM G h f1 v1 ++ wE G h5 g' u') (As := [.int (xs (x3 + 1).toNatClampNeg), .int (xs (x3 + 2).toNatClampNeg)]) (m_X5_odds G h5 (xs (x3 + 1).toNatClampNeg) (xs (x3 + 2).toNatClampNeg) g u hq) oX5_odds kL_100 ⟨rfl, rfl⟩ eX5_odds ⟨Nat.le_of_ble_eq_true rfl, Nat.le_of_ble_eq_true rfl⟩ ⟨Nat.le_of_ble_eq_true rfl, Nat.le_of_ble_eq_true rfl⟩ (by rw [List.append_nil]) (fun _ _ => by rw [List.append_nil]) (fun _ _ => rfl) 0 rfl rfl rfl (Nat.le_of_ble_eq_true rfl) dL_law_804 rfl (fun r2 f2 v2 hq => ?_)
  refine j_lcmp 808 C dL_law_807 rfl ?_
  refine j_if_eq 811 1156 C dL_law_808 rfl rfl (fun _ => ?_) (fun h9 => absurd ((lg_cmp_eq _ _).mpr hq.1) h9)
  exact K f1 v1 f2 v2 hq.2
set_option maxRecDepth 100000 in
set_option maxHeartbeats 4000000 in
theorem law_c20 {κ : Kx} {G : Gx} {h h5 : Nat → Nat} {b L : Nat} {xs : Nat → Int32} (C : Cx κ G RL cL_law room_1 4) (hX : va_X b L xs (ks κ) (ks κ).heap) (hbl : b < (ks κ).heap.size) (hbA : ¬ kA κ b) {E : Int32 → Int32 → Prop} {Rel : RelT} (hop : Op20 E Rel) {x3 : Int32} (hi1 : vp_in (x3 + 1) L) (hi2 : vp_in (x3 + 2) L) (hi3 : vp_in (x3 + 3) L) {f : FF} {v : VV} {g : FF} {u : VV} (hrel : Rel f v g u) (K : ∀ (f : FF) (v : VV) (g : FF) (u : VV), Rel f v g u → J κ 66 1015 (wM G h f v ++ wE G h5 g u) 1156 [(0, .ref b), (1, .ref (h 0)), (2, .ref (h5 0)), (3, .int x3)] []) : J κ 66 1015 (wM G h f v ++ wE G h5 g u) 813 [(0, .ref b), (1, .ref (h 0)), (2, .ref (h5 0)), (3, .int x3)] [] := by
  have hq := hop (xs (x3 + 1).toNatClampNeg) (xs (x3 + 2).toNatClampNeg) (xs (x3 + 3).toNatClampNeg) f v g u hrel
  refine j_aload_n 814 C dL_law_813 rfl 1 rfl ?_
  refine j_aload_n 815 C dL_law_814 rfl 0 rfl ?_
  refine j_iload_n 816 C dL_law_815 rfl 3 rfl ?_
  refine j_iconst 817 C dL_law_816 rfl ic_1 ?_
  refine j_iadd 818 C dL_law_817 rfl ?_
  refine j_sld 819 C hX hbl hbA hi1 dL_law_818 rfl ?_
  refine j_aload_n 820 C dL_law_819 rfl 0 rfl ?_
  refine j_iload_n 821 C dL_law_820 rfl 3 rfl ?_
  refine j_iconst 822 C dL_law_821 rfl ic_2 ?_
  refine j_iadd 823 C dL_law_822 rfl ?_
  refine j_sld 824 C hX hbl hbA hi2 dL_law_823 rfl ?_
  refine j_aload_n 825 C dL_law_824 rfl 0 rfl ?_
  refine j_iload_n 826 C dL_law_825 rfl 3 rfl ?_
  refine j_iconst 827 C dL_law_826 rfl ic_3 ?_
  refine j_iadd 828 C dL_law_827 rfl ?_
  refine j_sld 829 C hX hbl hbA hi3 dL_law_828 rfl ?_
  refine j_callVi 832 C [] (wE G h5 g u) (fun f' v' => wM G h f' v' ++ wE G h5 g u) (As := [.int (xs (x3 + 1).toNatClampNeg), .int (xs (x3 + 2).toNatClampNeg), .int (xs (x3 + 3).toNatClampNeg)]) (m_X4_sheet G h (xs (x3 + 1).toNatClampNeg) (xs (x3 + 2).toNatClampNeg) (xs (x3 + 3).toNatClampNeg) f v hq) oX4_sheet kL_101 ⟨rfl, rfl⟩ eX4_sheet ⟨Nat.le_of_ble_eq_true rfl, Nat.le_of_ble_eq_true rfl⟩ ⟨Nat.le_of_ble_eq_true rfl, Nat.le_of_ble_eq_true rfl⟩ rfl (fun _ _ => rfl) (fun _ _ => rfl) 0 rfl rfl rfl (Nat.le_of_ble_eq_true rfl) dL_law_829 rfl (fun r1 f1 v1 hq => ?_)
  refine j_pop 833 C dL_law_832 rfl rfl ?_
  refine j_aload_n 834 C dL_law_833 rfl 2 rfl ?_
  refine j_aload_n 835 C dL_law_834 rfl 0 rfl ?_
  refine j_iload_n 836 C dL_law_835 rfl 3 rfl ?_
  refine j_iconst 837 C dL_law_836 rfl ic_1 ?_
  refine j_iadd 838 C dL_law_837 rfl ?_
  refine j_sld 839 C hX hbl hbA hi1 dL_law_838 rfl ?_
  refine j_aload_n 840 C dL_law_839 rfl 0 rfl ?_
  refine j_iload_n 841 C dL_law_840 rfl 3 rfl ?_
  refine j_iconst 842 C dL_law_841 rfl ic_2 ?_
  refine j_iadd 843 C dL_law_842 rfl ?_
  refine j_sld 844 C hX hbl hbA hi2 dL_law_843 rfl ?_
  refine j_aload_n 845 C dL_law_844 rfl 0 rfl ?_
  refine j_iload_n 846 C dL_law_845 rfl 3 rfl ?_
  refine j_iconst 847 C dL_law_846 rfl ic_3 ?_
  refine j_iadd 848 C dL_law_847 rfl ?_
  refine j_sld 849 C hX hbl hbA hi3 dL_law_848 rfl ?_
  refine j_callVi 852 C (wM G h f1 v1) [] (fun g' u' => wM G h f1 v1 ++ wE G h5 g' u') (As := [.int (xs (x3 + 1).toNatClampNeg), .int (xs (x3 + 2).toNatClampNeg), .int (xs (x3 + 3).toNatClampNeg)]) (m_X5_sheet G h5 (xs (x3 + 1).toNatClampNeg) (xs (x3 + 2).toNatClampNeg) (xs (x3 + 3).toNatClampNeg) g u hq) oX5_sheet kL_104 ⟨rfl, rfl⟩ eX5_sheet ⟨Nat.le_of_ble_eq_true rfl, Nat.le_of_ble_eq_true rfl⟩ ⟨Nat.le_of_ble_eq_true rfl, Nat.le_of_ble_eq_true rfl⟩ (by rw [List.append_nil]) (fun _ _ => by rw [List.append_nil]) (fun _ _ => rfl) 0 rfl rfl rfl (Nat.le_of_ble_eq_true rfl) dL_law_849 rfl (fun r2 f2 v2 hq => ?_)
  refine j_pop 853 C dL_law_852 rfl rfl ?_
  refine j_goto 1156 C dL_law_853 rfl ?_
  exact K f1 v1 f2 v2 hq.2
set_option maxRecDepth 100000 in
set_option maxHeartbeats 4000000 in
theorem law_c21 {κ : Kx} {G : Gx} {h h5 : Nat → Nat} {b L : Nat} {xs : Nat → Int32} (C : Cx κ G RL cL_law room_1 4) (hX : va_X b L xs (ks κ) (ks κ).heap) (hbl : b < (ks κ).heap.size) (hbA : ¬ kA κ b) {E : Int32 → Int32 → Prop} {Rel : RelT} (hop : Op21 E Rel) {x3 : Int32} (hi1 : vp_in (x3 + 1) L) {f : FF} {v : VV} {g : FF} {u : VV} (hrel : Rel f v g u) (K : ∀ (f : FF) (v : VV) (g : FF) (u : VV), Rel f v g u → J κ 66 1015 (wM G h f v ++ wE G h5 g u) 1156 [(0, .ref b), (1, .ref (h 0)), (2, .ref (h5 0)), (3, .int x3)] []) : J κ 66 1015 (wM G h f v ++ wE G h5 g u) 856 [(0, .ref b), (1, .ref (h 0)), (2, .ref (h5 0)), (3, .int x3)] [] := by
  have hq := hop (xs (x3 + 1).toNatClampNeg) f v g u hrel
  refine j_aload_n 857 C dL_law_856 rfl 1 rfl ?_
  refine j_aload_n 858 C dL_law_857 rfl 0 rfl ?_
  refine j_iload_n 859 C dL_law_858 rfl 3 rfl ?_
  refine j_iconst 860 C dL_law_859 rfl ic_1 ?_
  refine j_iadd 861 C dL_law_860 rfl ?_
  refine j_sld 862 C hX hbl hbA hi1 dL_law_861 rfl ?_
  refine j_callVi 865 C [] (wE G h5 g u) (fun f' v' => wM G h f' v' ++ wE G h5 g u) (As := [.int (xs (x3 + 1).toNatClampNeg)]) (m_X4_lose G h (xs (x3 + 1).toNatClampNeg) f v hq) oX4_lose kL_105 ⟨rfl, rfl⟩ eX4_lose ⟨Nat.le_of_ble_eq_true rfl, Nat.le_of_ble_eq_true rfl⟩ ⟨Nat.le_of_ble_eq_true rfl, Nat.le_of_ble_eq_true rfl⟩ rfl (fun _ _ => rfl) (fun _ _ => rfl) 0 rfl rfl rfl (Nat.le_of_ble_eq_true rfl) dL_law_862 rfl (fun r1 f1 v1 hq => ?_)
  refine j_pop 866 C dL_law_865 rfl rfl ?_
  refine j_aload_n 867 C dL_law_866 rfl 2 rfl ?_
  refine j_aload_n 868 C dL_law_867 rfl 0 rfl ?_
  refine j_iload_n 869 C dL_law_868 rfl 3 rfl ?_
  refine j_iconst 870 C dL_law_869 rfl ic_1 ?_
  refine j_iadd 871 C dL_law_870 rfl ?_
  refine j_sld 872 C hX hbl hbA hi1 dL_law_871 rfl ?_
  refine j_callVi 875 C (wM G h f1 v1) [] (fun g' u' => wM G h f1 v1 ++ wE G h5 g' u') (As := [.int (xs (x3 + 1).toNatClampNeg)]) (m_X5_lose G h5 (xs (x3 + 1).toNatClampNeg) g u hq) oX5_lose kL_108 ⟨rfl, rfl⟩ eX5_lose ⟨Nat.le_of_ble_eq_true rfl, Nat.le_of_ble_eq_true rfl⟩ ⟨Nat.le_of_ble_eq_true rfl, Nat.le_of_ble_eq_true rfl⟩ (by rw [List.append_nil]) (fun _ _ => by rw [List.append_nil]) (fun _ _ => rfl) 0 rfl rfl rfl (Nat.le_of_ble_eq_true rfl) dL_law_872 rfl (fun r2 f2 v2 hq => ?_)
  refine j_pop 876 C dL_law_875 rfl rfl ?_
  refine j_goto 1156 C dL_law_876 rfl ?_
  exact K f1 v1 f2 v2 hq.2
set_option maxRecDepth 100000 in
set_option maxHeartbeats 4000000 in
theorem law_c22 {κ : Kx} {G : Gx} {h h5 : Nat → Nat} {b L : Nat} {xs : Nat → Int32} (C : Cx κ G RL cL_law room_1 4) (hX : va_X b L xs (ks κ) (ks κ).heap) (hbl : b < (ks κ).heap.size) (hbA : ¬ kA κ b) {E : Int32 → Int32 → Prop} {Rel : RelT} (hop : Op22 E Rel) {x3 : Int32} (hi1 : vp_in (x3 + 1) L) (hi2 : vp_in (x3 + 2) L) (hi3 : vp_in (x3 + 3) L) {f : FF} {v : VV} {g : FF} {u : VV} (hrel : Rel f v g u) (K : ∀ (f : FF) (v : VV) (g : FF) (u : VV), Rel f v g u → J κ 66 1015 (wM G h f v ++ wE G h5 g u) 1156 [(0, .ref b), (1, .ref (h 0)), (2, .ref (h5 0)), (3, .int x3)] []) : J κ 66 1015 (wM G h f v ++ wE G h5 g u) 879 [(0, .ref b), (1, .ref (h 0)), (2, .ref (h5 0)), (3, .int x3)] [] := by
  have hq := hop (xs (x3 + 1).toNatClampNeg) (xs (x3 + 2).toNatClampNeg) (xs (x3 + 3).toNatClampNeg) f v g u hrel
  refine j_aload_n 880 C dL_law_879 rfl 1 rfl ?_
  refine j_aload_n 881 C dL_law_880 rfl 0 rfl ?_
  refine j_iload_n 882 C dL_law_881 rfl 3 rfl ?_
  refine j_iconst 883 C dL_law_882 rfl ic_1 ?_
  refine j_iadd 884 C dL_law_883 rfl ?_
  refine j_sld 885 C hX hbl hbA hi1 dL_law_884 rfl ?_
  refine j_aload_n 886 C dL_law_885 rfl 0 rfl ?_
  refine j_iload_n 887 C dL_law_886 rfl 3 rfl ?_
  refine j_iconst 888 C dL_law_887 rfl ic_2 ?_
  refine j_iadd 889 C dL_law_888 rfl ?_
  refine j_sld 890 C hX hbl hbA hi2 dL_law_889 rfl ?_
  refine j_aload_n 891 C dL_law_890 rfl 0 rfl ?_
  refine j_iload_n 892 C dL_law_891 rfl 3 rfl ?_
  refine j_iconst 893 C dL_law_892 rfl ic_3 ?_
  refine j_iadd 894 C dL_law_893 rfl ?_
  refine j_sld 895 C hX hbl hbA hi3 dL_law_894 rfl ?_
  refine j_callVi 898 C [] (wE G h5 g u) (fun f' v' => wM G h f' v' ++ wE G h5 g u) (As := [.int (xs (x3 + 1).toNatClampNeg), .int (xs (x3 + 2).toNatClampNeg), .int (xs (x3 + 3).toNatClampNeg)]) (m_X4_put G h (xs (x3 + 1).toNatClampNeg) (xs (x3 + 2).toNatClampNeg) (xs (x3 + 3).toNatClampNeg) f v hq) oX4_put kL_109 ⟨rfl, rfl⟩ eX4_put ⟨Nat.le_of_ble_eq_true rfl, Nat.le_of_ble_eq_true rfl⟩ ⟨Nat.le_of_ble_eq_true rfl, Nat.le_of_ble_eq_true rfl⟩ rfl (fun _ _ => rfl) (fun _ _ => rfl) 0 rfl rfl rfl (Nat.le_of_ble_eq_true rfl) dL_law_895 rfl (fun r1 f1 v1 hq => ?_)
  refine j_pop 899 C dL_law_898 rfl rfl ?_
  refine j_aload_n 900 C dL_law_899 rfl 2 rfl ?_
  refine j_aload_n 901 C dL_law_900 rfl 0 rfl ?_
  refine j_iload_n 902 C dL_law_901 rfl 3 rfl ?_
  refine j_iconst 903 C dL_law_902 rfl ic_1 ?_
  refine j_iadd 904 C dL_law_903 rfl ?_
  refine j_sld 905 C hX hbl hbA hi1 dL_law_904 rfl ?_
  refine j_aload_n 906 C dL_law_905 rfl 0 rfl ?_
  refine j_iload_n 907 C dL_law_906 rfl 3 rfl ?_
  refine j_iconst 908 C dL_law_907 rfl ic_2 ?_
  refine j_iadd 909 C dL_law_908 rfl ?_
  refine j_sld 910 C hX hbl hbA hi2 dL_law_909 rfl ?_
  refine j_aload_n 911 C dL_law_910 rfl 0 rfl ?_
  refine j_iload_n 912 C dL_law_911 rfl 3 rfl ?_
  refine j_iconst 913 C dL_law_912 rfl ic_3 ?_
  refine j_iadd 914 C dL_law_913 rfl ?_
  refine j_sld 915 C hX hbl hbA hi3 dL_law_914 rfl ?_
  refine j_callVi 918 C (wM G h f1 v1) [] (fun g' u' => wM G h f1 v1 ++ wE G h5 g' u') (As := [.int (xs (x3 + 1).toNatClampNeg), .int (xs (x3 + 2).toNatClampNeg), .int (xs (x3 + 3).toNatClampNeg)]) (m_X5_put G h5 (xs (x3 + 1).toNatClampNeg) (xs (x3 + 2).toNatClampNeg) (xs (x3 + 3).toNatClampNeg) g u hq) oX5_put kL_112 ⟨rfl, rfl⟩ eX5_put ⟨Nat.le_of_ble_eq_true rfl, Nat.le_of_ble_eq_true rfl⟩ ⟨Nat.le_of_ble_eq_true rfl, Nat.le_of_ble_eq_true rfl⟩ (by rw [List.append_nil]) (fun _ _ => by rw [List.append_nil]) (fun _ _ => rfl) 0 rfl rfl rfl (Nat.le_of_ble_eq_true rfl) dL_law_915 rfl (fun r2 f2 v2 hq => ?_)
  refine j_pop 919 C dL_law_918 rfl rfl ?_
  refine j_goto 1156 C dL_law_919 rfl ?_
  exact K f1 v1 f2 v2 hq.2
set_option maxRecDepth 100000 in
set_option maxHeartbeats 4000000 in
theorem law_c23 {κ : Kx} {G : Gx} {h h5 : Nat → Nat} {b L : Nat} {xs : Nat → Int32} (C : Cx κ G RL cL_law room_1 4) (hX : va_X b L xs (ks κ) (ks κ).heap) (hbl : b < (ks κ).heap.size) (hbA : ¬ kA κ b) {E : Int64 → Int64 → Prop} {Rel : RelT} (hop : Op23 E Rel) {x3 : Int32} (hi1 : vp_in (x3 + 1) L) (hi2 : vp_in (x3 + 2) L) (hi3 : vp_in (x3 + 3) L) {f : FF} {v : VV} {g : FF} {u : VV} (hrel : Rel f v g u) (K : ∀ (f : FF) (v : VV) (g : FF) (u : VV), Rel f v g u → J κ 66 1015 (wM G h f v ++ wE G h5 g u) 1156 [(0, .ref b), (1, .ref (h 0)), (2, .ref (h5 0)), (3, .int x3)] []) : J κ 66 1015 (wM G h f v ++ wE G h5 g u) 922 [(0, .ref b), (1, .ref (h 0)), (2, .ref (h5 0)), (3, .int x3)] [] := by
  have hq := hop (xs (x3 + 1).toNatClampNeg) (xs (x3 + 2).toNatClampNeg) (xs (x3 + 3).toNatClampNeg) f v g u hrel
  refine j_aload_n 923 C dL_law_922 rfl 1 rfl ?_
  refine j_aload_n 924 C dL_law_923 rfl 0 rfl ?_
  refine j_iload_n 925 C dL_law_924 rfl 3 rfl ?_
  refine j_iconst 926 C dL_law_925 rfl ic_1 ?_
  refine j_iadd 927 C dL_law_926 rfl ?_
  refine j_sld 928 C hX hbl hbA hi1 dL_law_927 rfl ?_
  refine j_aload_n 929 C dL_law_928 rfl 0 rfl ?_
  refine j_iload_n 930 C dL_law_929 rfl 3 rfl ?_
  refine j_iconst 931 C dL_law_930 rfl ic_2 ?_
  refine j_iadd 932 C dL_law_931 rfl ?_
  refine j_sld 933 C hX hbl hbA hi2 dL_law_932 rfl ?_
  refine j_aload_n 934 C dL_law_933 rfl 0 rfl ?_
  refine j_iload_n 935 C dL_law_934 rfl 3 rfl ?_
  refine j_iconst 936 C dL_law_935 rfl ic_3 ?_
  refine j_iadd 937 C dL_law_936 rfl ?_
  refine j_sld 938 C hX hbl hbA hi3 dL_law_937 rfl ?_
  refine j_callVl 941 C [] (wE G h5 g u) (fun f' v' => wM G h f' v' ++ wE G h5 g u) (As := [.int (xs (x3 + 1).toNatClampNeg), .int (xs (x3 + 2).toNatClampNeg), .int (xs (x3 + 3).toNatClampNeg)]) (m_X4_cell G h (xs (x3 + 1).toNatClampNeg) (xs (x3 + 2).toNatClampNeg) (xs (x3 + 3).toNatClampNeg) f v hq) oX4_cell kL_113 ⟨rfl, rfl⟩ eX4_cell ⟨Nat.le_of_ble_eq_true rfl, Nat.le_of_ble_eq_true rfl⟩ ⟨Nat.le_of_ble_eq_true rfl, Nat.le_of_ble_eq_true rfl⟩ rfl (fun _ _ => rfl) (fun _ _ => rfl) 0 rfl rfl rfl (Nat.le_of_ble_eq_true rfl) dL_law_938 rfl (fun r1 f1 v1 hq => ?_)
  refine j_pop2 942 C dL_law_941 rfl rfl ?_
  refine j_aload_n 943 C dL_law_942 rfl 2 rfl ?_
  refine j_aload_n 944 C dL_law_943 rfl 0 rfl ?_
  refine j_iload_n 945 C dL_law_944 rfl 3 rfl ?_
  refine j_iconst 946 C dL_law_945 rfl ic_1 ?_
  refine j_iadd 947 C dL_law_946 rfl ?_
  refine j_sld 948 C hX hbl hbA hi1 dL_law_947 rfl ?_
  refine j_aload_n 949 C dL_law_948 rfl 0 rfl ?_
  refine j_iload_n 950 C dL_law_949 rfl 3 rfl ?_
  refine j_iconst 951 C dL_law_950 rfl ic_2 ?_
  refine j_iadd 952 C dL_law_951 rfl ?_
  refine j_sld 953 C hX hbl hbA hi2 dL_law_952 rfl ?_
  refine j_aload_n 954 C dL_law_953 rfl 0 rfl ?_
  refine j_iload_n 955 C dL_law_954 rfl 3 rfl ?_
  refine j_iconst 956 C dL_law_955 rfl ic_3 ?_
  refine j_iadd 957 C dL_law_956 rfl ?_
  refine j_sld 958 C hX hbl hbA hi3 dL_law_957 rfl ?_
  refine j_callVl 961 C (wM G h f1 v1) [] (fun g' u' => wM G h f1 v1 ++ wE G h5 g' u') (As := [.int (xs (x3 + 1).toNatClampNeg), .int (xs (x3 + 2).toNatClampNeg), .int (xs (x3 + 3).toNatClampNeg)]) (m_X5_cell G h5 (xs (x3 + 1).toNatClampNeg) (xs (x3 + 2).toNatClampNeg) (xs (x3 + 3).toNatClampNeg) g u hq) oX5_cell kL_117 ⟨rfl, rfl⟩ eX5_cell ⟨Nat.le_of_ble_eq_true rfl, Nat.le_of_ble_eq_true rfl⟩ ⟨Nat.le_of_ble_eq_true rfl, Nat.le_of_ble_eq_true rfl⟩ (by rw [List.append_nil]) (fun _ _ => by rw [List.append_nil]) (fun _ _ => rfl) 0 rfl rfl rfl (Nat.le_of_ble_eq_true rfl) dL_law_958 rfl (fun r2 f2 v2 hq => ?_)
  refine j_pop2 962 C dL_law_961 rfl rfl ?_
  refine j_goto 1156 C dL_law_962 rfl ?_
  exact K f1 v1 f2 v2 hq.2
set_option maxRecDepth 100000 in
set_option maxHeartbeats 4000000 in
theorem law_c24 {κ : Kx} {G : Gx} {h h5 : Nat → Nat} {b L : Nat} {xs : Nat → Int32} (C : Cx κ G RL cL_law room_1 4) (hX : va_X b L xs (ks κ) (ks κ).heap) (hbl : b < (ks κ).heap.size) (hbA : ¬ kA κ b) {E : Int32 → Int32 → Prop} {Rel : RelT} (hop : Op24 E Rel) {x3 : Int32} (hi1 : vp_in (x3 + 1) L) (hi2 : vp_in (x3 + 2) L) (hi3 : vp_in (x3 + 3) L) (hi4 : vp_in (x3 + 4) L) (hi5 : vp_in (x3 + 5) L) {f : FF} {v : VV} {g : FF} {u : VV} (hrel : Rel f v g u) (K : ∀ (f : FF) (v : VV) (g : FF) (u : VV), Rel f v g u → J κ 66 1015 (wM G h f v ++ wE G h5 g u) 1156 [(0, .ref b), (1, .ref (h 0)), (2, .ref (h5 0)), (3, .int x3)] []) : J κ 66 1015 (wM G h f v ++ wE G h5 g u) 965 [(0, .ref b), (1, .ref (h 0)), (2, .ref (h5 0)), (3, .int x3)] [] := by
  have hq := hop (xs (x3 + 1).toNatClampNeg) (xs (x3 + 2).toNatClampNeg) (xs (x3 + 3).toNatClampNeg) (xs (x3 + 4).toNatClampNeg) (xs (x3 + 5).toNatClampNeg) f v g u hrel
  refine j_aload_n 966 C dL_law_965 rfl 1 rfl ?_
  refine j_aload_n 967 C dL_law_966 rfl 0 rfl ?_
  refine j_iload_n 968 C dL_law_967 rfl 3 rfl ?_
  refine j_iconst 969 C dL_law_968 rfl ic_1 ?_
  refine j_iadd 970 C dL_law_969 rfl ?_
  refine j_sld 971 C hX hbl hbA hi1 dL_law_970 rfl ?_
  refine j_aload_n 972 C dL_law_971 rfl 0 rfl ?_
  refine j_iload_n 973 C dL_law_972 rfl 3 rfl ?_
  refine j_iconst 974 C dL_law_973 rfl ic_2 ?_
  refine j_iadd 975 C dL_law_974 rfl ?_
  refine j_sld 976 C hX hbl hbA hi2 dL_law_975 rfl ?_
  refine j_aload_n 977 C dL_law_976 rfl 0 rfl ?_
  refine j_iload_n 978 C dL_law_977 rfl 3 rfl ?_
  refine j_iconst 979 C dL_law_978 rfl ic_3 ?_
  refine j_iadd 980 C dL_law_979 rfl ?_
  refine j_sld 981 C hX hbl hbA hi3 dL_law_980 rfl ?_
  refine j_aload_n 982 C dL_law_981 rfl 0 rfl ?_
  refine j_iload_n 983 C dL_law_982 rfl 3 rfl ?_
  refine j_iconst 984 C dL_law_983 rfl ic_4 ?_
  refine j_iadd 985 C dL_law_984 rfl ?_
  refine j_sld 986 C hX hbl hbA hi4 dL_law_985 rfl ?_
  refine j_aload_n 987 C dL_law_986 rfl 0 rfl ?_
  refine j_iload_n 988 C dL_law_987 rfl 3 rfl ?_
  refine j_iconst 989 C dL_law_988 rfl ic_5 ?_
  refine j_iadd 990 C dL_law_989 rfl ?_
  refine j_sld 991 C hX hbl hbA hi5 dL_law_990 rfl ?_
  refine j_callVi 994 C [] (wE G h5 g u) (fun f' v' => wM G h f' v' ++ wE G h5 g u) (As := [.int (xs (x3 + 1).toNatClampNeg), .int (xs (x3 + 2).toNatClampNeg), .int (xs (x3 + 3).toNatClampNeg), .int (xs (x3 + 4).toNatClampNeg), .int (xs (x3 + 5).toNatClampNeg)]) (m_X4_copy G h (xs (x3 + 1).toNatClampNeg) (xs (x3 + 2).toNatClampNeg) (xs (x3 + 3).toNatClampNeg) (xs (x3 + 4).toNatClampNeg) (xs (x3 + 5).toNatClampNeg) f v hq) oX4_copy kL_118 ⟨rfl, rfl⟩ eX4_copy ⟨Nat.le_of_ble_eq_true rfl, Nat.le_of_ble_eq_true rfl⟩ ⟨Nat.le_of_ble_eq_true rfl, Nat.le_of_ble_eq_true rfl⟩ rfl (fun _ _ => rfl) (fun _ _ => rfl) 0 rfl rfl rfl (Nat.le_of_ble_eq_true rfl) dL_law_991 rfl (fun r1 f1 v1 hq => ?_)
  refine j_pop 995 C dL_law_994 rfl rfl ?_
  refine j_aload_n 996 C dL_law_995 rfl 2 rfl ?_
  refine j_aload_n 997 C dL_law_996 rfl 0 rfl ?_
  refine j_iload_n 998 C dL_law_997 rfl 3 rfl ?_
  refine j_iconst 999 C dL_law_998 rfl ic_1 ?_
  refine j_iadd 1000 C dL_law_999 rfl ?_
  refine j_sld 1001 C hX hbl hbA hi1 dL_law_1000 rfl ?_
  refine j_aload_n 1002 C dL_law_1001 rfl 0 rfl ?_
  refine j_iload_n 1003 C dL_law_1002 rfl 3 rfl ?_
  refine j_iconst 1004 C dL_law_1003 rfl ic_2 ?_
  refine j_iadd 1005 C dL_law_1004 rfl ?_
  refine j_sld 1006 C hX hbl hbA hi2 dL_law_1005 rfl ?_
  refine j_aload_n 1007 C dL_law_1006 rfl 0 rfl ?_
  refine j_iload_n 1008 C dL_law_1007 rfl 3 rfl ?_
  refine j_iconst 1009 C dL_law_1008 rfl ic_3 ?_
  refine j_iadd 1010 C dL_law_1009 rfl ?_
  refine j_sld 1011 C hX hbl hbA hi3 dL_law_1010 rfl ?_
  refine j_aload_n 1012 C dL_law_1011 rfl 0 rfl ?_
  refine j_iload_n 1013 C dL_law_1012 rfl 3 rfl ?_
  refine j_iconst 1014 C dL_law_1013 rfl ic_4 ?_
  refine j_iadd 1015 C dL_law_1014 rfl ?_
  refine j_sld 1016 C hX hbl hbA hi4 dL_law_1015 rfl ?_
  refine j_aload_n 1017 C dL_law_1016 rfl 0 rfl ?_
  refine j_iload_n 1018 C dL_law_1017 rfl 3 rfl ?_
  refine j_iconst 1019 C dL_law_1018 rfl ic_5 ?_
  refine j_iadd 1020 C dL_law_1019 rfl ?_
  refine j_sld 1021 C hX hbl hbA hi5 dL_law_1020 rfl ?_
  refine j_callVi 1024 C (wM G h f1 v1) [] (fun g' u' => wM G h f1 v1 ++ wE G h5 g' u') (As := [.int (xs (x3 + 1).toNatClampNeg), .int (xs (x3 + 2).toNatClampNeg), .int (xs (x3 + 3).toNatClampNeg), .int (xs (x3 + 4).toNatClampNeg), .int (xs (x3 + 5).toNatClampNeg)]) (m_X5_copy G h5 (xs (x3 + 1).toNatClampNeg) (xs (x3 + 2).toNatClampNeg) (xs (x3 + 3).toNatClampNeg) (xs (x3 + 4).toNatClampNeg) (xs (x3 + 5).toNatClampNeg) g u hq) oX5_copy kL_121 ⟨rfl, rfl⟩ eX5_copy ⟨Nat.le_of_ble_eq_true rfl, Nat.le_of_ble_eq_true rfl⟩ ⟨Nat.le_of_ble_eq_true rfl, Nat.le_of_ble_eq_true rfl⟩ (by rw [List.append_nil]) (fun _ _ => by rw [List.append_nil]) (fun _ _ => rfl) 0 rfl rfl rfl (Nat.le_of_ble_eq_true rfl) dL_law_1021 rfl (fun r2 f2 v2 hq => ?_)
  refine j_pop 1025 C dL_law_1024 rfl rfl ?_
  refine j_goto 1156 C dL_law_1025 rfl ?_
  exact K f1 v1 f2 v2 hq.2
set_option maxRecDepth 100000 in
set_option maxHeartbeats 4000000 in
theorem law_c25 {κ : Kx} {G : Gx} {h h5 : Nat → Nat} {b L : Nat} {xs : Nat → Int32} (C : Cx κ G RL cL_law room_1 4) (hX : va_X b L xs (ks κ) (ks κ).heap) (hbl : b < (ks κ).heap.size) (hbA : ¬ kA κ b) {E : Int32 → Int32 → Prop} {Rel : RelT} (hop : Op25 E Rel) {x3 : Int32} (hi1 : vp_in (x3 + 1) L) {f : FF} {v : VV} {g : FF} {u : VV} (hrel : Rel f v g u) (K : ∀ (f : FF) (v : VV) (g : FF) (u : VV), Rel f v g u → J κ 66 1015 (wM G h f v ++ wE G h5 g u) 1156 [(0, .ref b), (1, .ref (h 0)), (2, .ref (h5 0)), (3, .int x3)] []) : J κ 66 1015 (wM G h f v ++ wE G h5 g u) 1028 [(0, .ref b), (1, .ref (h 0)), (2, .ref (h5 0)), (3, .int x3)] [] := by
  have hq := hop (xs (x3 + 1).toNatClampNeg) f v g u hrel
  refine j_aload_n 1029 C dL_law_1028 rfl 1 rfl ?_
  refine j_aload_n 1030 C dL_law_1029 rfl 0 rfl ?_
  refine j_iload_n 1031 C dL_law_1030 rfl 3 rfl ?_
  refine j_iconst 1032 C dL_law_1031 rfl ic_1 ?_
  refine j_iadd 1033 C dL_law_1032 rfl ?_
  refine j_sld 1034 C hX hbl hbA hi1 dL_law_1033 rfl ?_
  refine j_callVi 1037 C [] (wE G h5 g u) (fun f' v' => wM G h f' v' ++ wE G h5 g u) (As := [.int (xs (x3 + 1).toNatClampNeg)]) (m_X4_tell G h (xs (x3 + 1).toNatClampNeg) f v hq) oX4_tell kL_122 ⟨rfl, rfl⟩ eX4_tell ⟨Nat.le_of_ble_eq_true rfl, Nat.le_of_ble_eq_true rfl⟩ ⟨Nat.le_of_ble_eq_true rfl, Nat.le_of_ble_eq_true rfl⟩ rfl (fun _ _ => rfl) (fun _ _ => rfl) 0 rfl rfl rfl (Nat.le_of_ble_eq_true rfl) dL_law_1034 rfl (fun r1 f1 v1 hq => ?_)
  refine j_pop 1038 C dL_law_1037 rfl rfl ?_
  refine j_aload_n 1039 C dL_law_1038 rfl 2 rfl ?_
  refine j_aload_n 1040 C dL_law_1039 rfl 0 rfl ?_
  refine j_iload_n 1041 C dL_law_1040 rfl 3 rfl ?_
  refine j_iconst 1042 C dL_law_1041 rfl ic_1 ?_
  refine j_iadd 1043 C dL_law_1042 rfl ?_
  refine j_sld 1044 C hX hbl hbA hi1 dL_law_1043 rfl ?_
  refine j_callVi 1047 C (wM G h f1 v1) [] (fun g' u' => wM G h f1 v1 ++ wE G h5 g' u') (As := [.int (xs (x3 + 1).toNatClampNeg)]) (m_X5_tell G h5 (xs (x3 + 1).toNatClampNeg) g u hq) oX5_tell kL_125 ⟨rfl, rfl⟩ eX5_tell ⟨Nat.le_of_ble_eq_true rfl, Nat.le_of_ble_eq_true rfl⟩ ⟨Nat.le_of_ble_eq_true rfl, Nat.le_of_ble_eq_true rfl⟩ (by rw [List.append_nil]) (fun _ _ => by rw [List.append_nil]) (fun _ _ => rfl) 0 rfl rfl rfl (Nat.le_of_ble_eq_true rfl) dL_law_1044 rfl (fun r2 f2 v2 hq => ?_)
  refine j_pop 1048 C dL_law_1047 rfl rfl ?_
  refine j_goto 1156 C dL_law_1048 rfl ?_
  exact K f1 v1 f2 v2 hq.2
set_option maxRecDepth 100000 in
set_option maxHeartbeats 4000000 in
theorem law_c26 {κ : Kx} {G : Gx} {h h5 : Nat → Nat} {b L : Nat} {xs : Nat → Int32} (C : Cx κ G RL cL_law room_1 4) (hX : va_X b L xs (ks κ) (ks κ).heap) (hbl : b < (ks κ).heap.size) (hbA : ¬ kA κ b) {E : Int32 → Int32 → Prop} {Rel : RelT} (hop : Op26 E Rel) {x3 : Int32} (hi1 : vp_in (x3 + 1) L) {f : FF} {v : VV} {g : FF} {u : VV} (hrel : Rel f v g u) (K : ∀ (f : FF) (v : VV) (g : FF) (u : VV), Rel f v g u → J κ 66 1015 (wM G h f v ++ wE G h5 g u) 1156 [(0, .ref b), (1, .ref (h 0)), (2, .ref (h5 0)), (3, .int x3)] []) : J κ 66 1015 (wM G h f v ++ wE G h5 g u) 1051 [(0, .ref b), (1, .ref (h 0)), (2, .ref (h5 0)), (3, .int x3)] [] := by
  have hq := hop (xs (x3 + 1).toNatClampNeg) f v g u hrel
  refine j_aload_n 1052 C dL_law_1051 rfl 1 rfl ?_
  refine j_aload_n 1053 C dL_law_1052 rfl 0 rfl ?_
  refine j_iload_n 1054 C dL_law_1053 rfl 3 rfl ?_
  refine j_iconst 1055 C dL_law_1054 rfl ic_1 ?_
  refine j_iadd 1056 C dL_law_1055 rfl ?_
  refine j_sld 1057 C hX hbl hbA hi1 dL_law_1056 rfl ?_
  refine j_callVi 1060 C [] (wE G h5 g u) (fun f' v' => wM G h f' v' ++ wE G h5 g u) (As := [.int (xs (x3 + 1).toNatClampNeg)]) (m_X4_log G h (xs (x3 + 1).toNatClampNeg) f v hq) oX4_log kL_126 ⟨rfl, rfl⟩ eX4_log ⟨Nat.le_of_ble_eq_true rfl, Nat.le_of_ble_eq_true rfl⟩ ⟨Nat.le_of_ble_eq_true rfl, Nat.le_of_ble_eq_true rfl⟩ rfl (fun _ _ => rfl) (fun _ _ => rfl) 0 rfl rfl rfl (Nat.le_of_ble_eq_true rfl) dL_law_1057 rfl (fun r1 f1 v1 hq => ?_)
  refine j_pop 1061 C dL_law_1060 rfl rfl ?_
  refine j_aload_n 1062 C dL_law_1061 rfl 2 rfl ?_
  refine j_aload_n 1063 C dL_law_1062 rfl 0 rfl ?_
  refine j_iload_n 1064 C dL_law_1063 rfl 3 rfl ?_
  refine j_iconst 1065 C dL_law_1064 rfl ic_1 ?_
  refine j_iadd 1066 C dL_law_1065 rfl ?_
  refine j_sld 1067 C hX hbl hbA hi1 dL_law_1066 rfl ?_
  refine j_callVi 1070 C (wM G h f1 v1) [] (fun g' u' => wM G h f1 v1 ++ wE G h5 g' u') (As := [.int (xs (x3 + 1).toNatClampNeg)]) (m_X5_log G h5 (xs (x3 + 1).toNatClampNeg) g u hq) oX5_log kL_129 ⟨rfl, rfl⟩ eX5_log ⟨Nat.le_of_ble_eq_true rfl, Nat.le_of_ble_eq_true rfl⟩ ⟨Nat.le_of_ble_eq_true rfl, Nat.le_of_ble_eq_true rfl⟩ (by rw [List.append_nil]) (fun _ _ => by rw [List.append_nil]) (fun _ _ => rfl) 0 rfl rfl rfl (Nat.le_of_ble_eq_true rfl) dL_law_1067 rfl (fun r2 f2 v2 hq => ?_)
  refine j_pop 1071 C dL_law_1070 rfl rfl ?_
  refine j_goto 1156 C dL_law_1071 rfl ?_
  exact K f1 v1 f2 v2 hq.2
set_option maxRecDepth 100000 in
set_option maxHeartbeats 4000000 in
theorem law_c27 {κ : Kx} {G : Gx} {h h5 : Nat → Nat} {b L : Nat} {xs : Nat → Int32} (C : Cx κ G RL cL_law room_1 4) (hX : va_X b L xs (ks κ) (ks κ).heap) (hbl : b < (ks κ).heap.size) (hbA : ¬ kA κ b) {E : Int32 → Int32 → Prop} {Rel : RelT} (hop : Op27 E Rel) {x3 : Int32} (hi1 : vp_in (x3 + 1) L) (hi2 : vp_in (x3 + 2) L) {f : FF} {v : VV} {g : FF} {u : VV} (hrel : Rel f v g u) (K : ∀ (f : FF) (v : VV) (g : FF) (u : VV), Rel f v g u → J κ 66 1015 (wM G h f v ++ wE G h5 g u) 1156 [(0, .ref b), (1, .ref (h 0)), (2, .ref (h5 0)), (3, .int x3)] []) : J κ 66 1015 (wM G h f v ++ wE G h5 g u) 1074 [(0, .ref b), (1, .ref (h 0)), (2, .ref (h5 0)), (3, .int x3)] [] := by
  have hq := hop (xs (x3 + 1).toNatClampNeg) (xs (x3 + 2).toNatClampNeg) f v g u hrel
  refine j_aload_n 1075 C dL_law_1074 rfl 1 rfl ?_
  refine j_aload_n 1076 C dL_law_1075 rfl 0 rfl ?_
  refine j_iload_n 1077 C dL_law_1076 rfl 3 rfl ?_
  refine j_iconst 1078 C dL_law_1077 rfl ic_1 ?_
  refine j_iadd 1079 C dL_law_1078 rfl ?_
  refine j_sld 1080 C hX hbl hbA hi1 dL_law_1079 rfl ?_
  refine j_aload_n 1081 C dL_law_1080 rfl 0 rfl ?_
  refine j_iload_n 1082 C dL_law_1081 rfl 3 rfl ?_
  refine j_iconst 1083 C dL_law_1082 rfl ic_2 ?_
  refine j_iadd 1084 C dL_law_1083 rfl ?_
  refine j_sld 1085 C hX hbl hbA hi2 dL_law_1084 rfl ?_
  refine j_callVi 1088 C [] (wE G h5 g u) (fun f' v' => wM G h f' v' ++ wE G h5 g u) (As := [.int (xs (x3 + 1).toNatClampNeg), .int (xs (x3 + 2).toNatClampNeg)]) (m_X4_as G h (xs (x3 + 1).toNatClampNeg) (xs (x3 + 2).toNatClampNeg) f v hq) oX4_as kL_130 ⟨rfl, rfl⟩ eX4_as ⟨Nat.le_of_ble_eq_true rfl, Nat.le_of_ble_eq_true rfl⟩ ⟨Nat.le_of_ble_eq_true rfl, Nat.le_of_ble_eq_true rfl⟩ rfl (fun _ _ => rfl) (fun _ _ => rfl) 0 rfl rfl rfl (Nat.le_of_ble_eq_true rfl) dL_law_1085 rfl (fun r1 f1 v1 hq => ?_)
  refine j_pop 1089 C dL_law_1088 rfl rfl ?_
  refine j_aload_n 1090 C dL_law_1089 rfl 2 rfl ?_
  refine j_aload_n 1091 C dL_law_1090 rfl 0 rfl ?_
  refine j_iload_n 1092 C dL_law_1091 rfl 3 rfl ?_
  refine j_iconst 1093 C dL_law_1092 rfl ic_1 ?_
  refine j_iadd 1094 C dL_law_1093 rfl ?_
  refine j_sld 1095 C hX hbl hbA hi1 dL_law_1094 rfl ?_
  refine j_aload_n 1096 C dL_law_1095 rfl 0 rfl ?_
  refine j_iload_n 1097 C dL_law_1096 rfl 3 rfl ?_
  refine j_iconst 1098 C dL_law_1097 rfl ic_2 ?_
  refine j_iadd 1099 C dL_law_1098 rfl ?_
  refine j_sld 1100 C hX hbl hbA hi2 dL_law_1099 rfl ?_
  refine j_callVi 1103 C (wM G h f1 v1) [] (fun g' u' => wM G h f1 v1 ++ wE G h5 g' u') (As := [.int (xs (x3 + 1).toNatClampNeg), .int (xs (x3 + 2).toNatClampNeg)]) (m_X5_as G h5 (xs (x3 + 1).toNatClampNeg) (xs (x3 + 2).toNatClampNeg) g u hq) oX5_as kL_133 ⟨rfl, rfl⟩ eX5_as ⟨Nat.le_of_ble_eq_true rfl, Nat.le_of_ble_eq_true rfl⟩ ⟨Nat.le_of_ble_eq_true rfl, Nat.le_of_ble_eq_true rfl⟩ (by rw [List.append_nil]) (fun _ _ => by rw [List.append_nil]) (fun _ _ => rfl) 0 rfl rfl rfl (Nat.le_of_ble_eq_true rfl) dL_law_1100 rfl (fun r2 f2 v2 hq => ?_)
  refine j_pop 1104 C dL_law_1103 rfl rfl ?_
  refine j_goto 1156 C dL_law_1104 rfl ?_
  exact K f1 v1 f2 v2 hq.2
set_option maxRecDepth 100000 in
set_option maxHeartbeats 4000000 in
theorem law_c28 {κ : Kx} {G : Gx} {h h5 : Nat → Nat} {b L : Nat} {xs : Nat → Int32} (C : Cx κ G RL cL_law room_1 4) (hX : va_X b L xs (ks κ) (ks κ).heap) (hbl : b < (ks κ).heap.size) (hbA : ¬ kA κ b) {E : Int32 → Int32 → Prop} {Rel : RelT} (hop : Op28 E Rel) {x3 : Int32} {f : FF} {v : VV} {g : FF} {u : VV} (hrel : Rel f v g u) (K : ∀ (f : FF) (v : VV) (g : FF) (u : VV), Rel f v g u → J κ 66 1015 (wM G h f v ++ wE G h5 g u) 1156 [(0, .ref b), (1, .ref (h 0)), (2, .ref (h5 0)), (3, .int x3)] []) : J κ 66 1015 (wM G h f v ++ wE G h5 g u) 1107 [(0, .ref b), (1, .ref (h 0)), (2, .ref (h5 0)), (3, .int x3)] [] := by
  have hq := hop  f v g u hrel
  refine j_aload_n 1108 C dL_law_1107 rfl 1 rfl ?_
  refine j_callVi_ro 1111 C [] (wE G h5 g u) (As := []) (m_X4_trace G h f v hq) oX4_trace kL_134 ⟨rfl, rfl⟩ eX4_trace ⟨Nat.le_of_ble_eq_true rfl, Nat.le_of_ble_eq_true rfl⟩ ⟨Nat.le_of_ble_eq_true rfl, Nat.le_of_ble_eq_true rfl⟩ rfl (fun _ _ => rfl) 0 rfl rfl rfl (Nat.le_of_ble_eq_true rfl) dL_law_1108 rfl (fun r1 hq => ?_)
  refine j_pop 1112 C dL_law_1111 rfl rfl ?_
  refine j_aload_n 1113 C dL_law_1112 rfl 2 rfl ?_
  refine j_callVi_ro 1116 C (wM G h f v) [] (As := []) (m_X5_trace G h5 g u hq) oX5_trace kL_137 ⟨rfl, rfl⟩ eX5_trace ⟨Nat.le_of_ble_eq_true rfl, Nat.le_of_ble_eq_true rfl⟩ ⟨Nat.le_of_ble_eq_true rfl, Nat.le_of_ble_eq_true rfl⟩ (by rw [List.append_nil]) (fun _ _ => rfl) 0 rfl rfl rfl (Nat.le_of_ble_eq_true rfl) dL_law_1113 rfl (fun r2 hq => ?_)
  refine j_pop 1117 C dL_law_1116 rfl rfl ?_
  refine j_goto 1156 C dL_law_1117 rfl ?_
  exact K f v g u hq.2
set_option maxRecDepth 100000 in
set_option maxHeartbeats 4000000 in
theorem law_c29 {κ : Kx} {G : Gx} {h h5 : Nat → Nat} {b L : Nat} {xs : Nat → Int32} (C : Cx κ G RL cL_law room_1 4) (hX : va_X b L xs (ks κ) (ks κ).heap) (hbl : b < (ks κ).heap.size) (hbA : ¬ kA κ b) {E : Int32 → Int32 → Prop} {Rel : RelT} (hop : Op29 E Rel) {x3 : Int32} {f : FF} {v : VV} {g : FF} {u : VV} (hrel : Rel f v g u) (K : ∀ (f : FF) (v : VV) (g : FF) (u : VV), Rel f v g u → J κ 66 1015 (wM G h f v ++ wE G h5 g u) 1156 [(0, .ref b), (1, .ref (h 0)), (2, .ref (h5 0)), (3, .int x3)] []) : J κ 66 1015 (wM G h f v ++ wE G h5 g u) 1120 [(0, .ref b), (1, .ref (h 0)), (2, .ref (h5 0)), (3, .int x3)] [] := by
  have hq := hop  f v g u hrel
  refine j_aload_n 1121 C dL_law_1120 rfl 1 rfl ?_
  refine j_callVi_ro 1124 C [] (wE G h5 g u) (As := []) (m_X4_fault G h f v hq) oX4_fault kL_138 ⟨rfl, rfl⟩ eX4_fault ⟨Nat.le_of_ble_eq_true rfl, Nat.le_of_ble_eq_true rfl⟩ ⟨Nat.le_of_ble_eq_true rfl, Nat.le_of_ble_eq_true rfl⟩ rfl (fun _ _ => rfl) 0 rfl rfl rfl (Nat.le_of_ble_eq_true rfl) dL_law_1121 rfl (fun r1 hq => ?_)
  refine j_pop 1125 C dL_law_1124 rfl rfl ?_
  refine j_aload_n 1126 C dL_law_1125 rfl 2 rfl ?_
  refine j_callVi_ro 1129 C (wM G h f v) [] (As := []) (m_X5_fault G h5 g u hq) oX5_fault kL_141 ⟨rfl, rfl⟩ eX5_fault ⟨Nat.le_of_ble_eq_true rfl, Nat.le_of_ble_eq_true rfl⟩ ⟨Nat.le_of_ble_eq_true rfl, Nat.le_of_ble_eq_true rfl⟩ (by rw [List.append_nil]) (fun _ _ => rfl) 0 rfl rfl rfl (Nat.le_of_ble_eq_true rfl) dL_law_1126 rfl (fun r2 hq => ?_)
  refine j_pop 1130 C dL_law_1129 rfl rfl ?_
  refine j_goto 1156 C dL_law_1130 rfl ?_
  exact K f v g u hq.2
set_option maxRecDepth 100000 in
set_option maxHeartbeats 4000000 in
theorem law_c30 {κ : Kx} {G : Gx} {h h5 : Nat → Nat} {b L : Nat} {xs : Nat → Int32} (C : Cx κ G RL cL_law room_1 4) (hX : va_X b L xs (ks κ) (ks κ).heap) (hbl : b < (ks κ).heap.size) (hbA : ¬ kA κ b) {E : Int32 → Int32 → Prop} {Rel : RelT} (hop : Op30 E Rel) {x3 : Int32} (hi1 : vp_in (x3 + 1) L) {f : FF} {v : VV} {g : FF} {u : VV} (hrel : Rel f v g u) (K : ∀ (f : FF) (v : VV) (g : FF) (u : VV), Rel f v g u → J κ 66 1015 (wM G h f v ++ wE G h5 g u) 1156 [(0, .ref b), (1, .ref (h 0)), (2, .ref (h5 0)), (3, .int x3)] []) : J κ 66 1015 (wM G h f v ++ wE G h5 g u) 1133 [(0, .ref b), (1, .ref (h 0)), (2, .ref (h5 0)), (3, .int x3)] [] := by
  have hq := hop (xs (x3 + 1).toNatClampNeg) f v g u hrel
  refine j_aload_n 1134 C dL_law_1133 rfl 1 rfl ?_
  refine j_aload_n 1135 C dL_law_1134 rfl 0 rfl ?_
  refine j_iload_n 1136 C dL_law_1135 rfl 3 rfl ?_
  refine j_iconst 1137 C dL_law_1136 rfl ic_1 ?_
  refine j_iadd 1138 C dL_law_1137 rfl ?_
  refine j_sld 1139 C hX hbl hbA hi1 dL_law_1138 rfl ?_
  refine j_callVi 1142 C [] (wE G h5 g u) (fun f' v' => wM G h f' v' ++ wE G h5 g u) (As := [.int (xs (x3 + 1).toNatClampNeg)]) (m_X4_many G h (xs (x3 + 1).toNatClampNeg) f v hq) oX4_many kL_142 ⟨rfl, rfl⟩ eX4_many ⟨Nat.le_of_ble_eq_true rfl, Nat.le_of_ble_eq_true rfl⟩ ⟨Nat.le_of_ble_eq_true rfl, Nat.le_of_ble_eq_true rfl⟩ rfl (fun _ _ => rfl) (fun _ _ => rfl) 0 rfl rfl rfl (Nat.le_of_ble_eq_true rfl) dL_law_1139 rfl (fun r1 f1 v1 hq => ?_)
  refine j_pop 1143 C dL_law_1142 rfl rfl ?_
  refine j_aload_n 1144 C dL_law_1143 rfl 2 rfl ?_
  refine j_aload_n 1145 C dL_law_1144 rfl 0 rfl ?_
  refine j_iload_n 1146 C dL_law_1145 rfl 3 rfl ?_
  refine j_iconst 1147 C dL_law_1146 rfl ic_1 ?_
  refine j_iadd 1148 C dL_law_1147 rfl ?_
  refine j_sld 1149 C hX hbl hbA hi1 dL_law_1148 rfl ?_
  refine j_callVi 1152 C (wM G h f1 v1) [] (fun g' u' => wM G h f1 v1 ++ wE G h5 g' u') (As := [.int (xs (x3 + 1).toNatClampNeg)]) (m_X5_many G h5 (xs (x3 + 1).toNatClampNeg) g u hq) oX5_many kL_145 ⟨rfl, rfl⟩ eX5_many ⟨Nat.le_of_ble_eq_true rfl, Nat.le_of_ble_eq_true rfl⟩ ⟨Nat.le_of_ble_eq_true rfl, Nat.le_of_ble_eq_true rfl⟩ (by rw [List.append_nil]) (fun _ _ => by rw [List.append_nil]) (fun _ _ => rfl) 0 rfl rfl rfl (Nat.le_of_ble_eq_true rfl) dL_law_1149 rfl (fun r2 f2 v2 hq => ?_)
  refine j_pop 1153 C dL_law_1152 rfl rfl ?_
  refine j_goto 1156 C dL_law_1153 rfl ?_
  exact K f1 v1 f2 v2 hq.2
theorem law_ge {L k : Nat} (hL : L ≤ 3072) (hk : k ≤ 4000) (h : ¬ Int32.ofNat L - 6 < nI k) : k + 6 ≤ L := by
  rcases Nat.lt_or_ge L (k + 6) with z | z
  · exfalso
    apply h
    rcases Nat.lt_or_ge L 6 with y | y
    · have e : ∀ L, L < 6 → (Int32.ofNat L - 6 : Int32) < 0 := by decide
      have e2 := e L y
      rw [fa_lt0] at e2 ⊢
      rw [nI_toInt (by omega)]
      have e3 : (0 : Int32).toInt = 0 := rfl
      omega
    · have e : (Int32.ofNat L - 6 : Int32) = nI (L - 6) := pk_sub (a := L) (b := 6) y
      rw [e]
      exact nI_lt (by omega) (by omega)
  · exact z
theorem law_ix {L k : Nat} {x3 : Int32} (hL : L ≤ 3072) (h : k + 6 ≤ L) (e : x3 = nI k) (j : Nat) (hj : j < 6) {y : Int32} (ey : y = nI j) : vp_in (x3 + y) L := by
  subst e; subst ey
  rw [nI_add]
  exact vp_in_nI (by omega) (by omega)
set_option maxRecDepth 100000 in
set_option maxHeartbeats 8000000 in
theorem law_loop {κ : Kx} {G : Gx} {h h5 : Nat → Nat} {b L : Nat} {xs : Nat → Int32} (C : Cx κ G RL cL_law room_1 4) (hX : va_X b L xs (ks κ) (ks κ).heap) (hbl : b < (ks κ).heap.size) (hbA : ¬ kA κ b) {E0 : Int32 → Int32 → Prop} {E1 : Int32 → Int32 → Prop} {E2 : Int32 → Int32 → Prop} {E3 : Int32 → Int32 → Prop} {E4 : Int32 → Int32 → Prop} {E5 : Int32 → Int32 → Prop} {E6 : Int32 → Int32 → Prop} {E7 : Int32 → Int32 → Prop} {E8 : Int32 → Int32 → Prop} {E9 : Int32 → Int32 → Prop} {E10 : Int32 → Int32 → Prop} {E11 : Int32 → Int32 → Prop} {E12 : Int32 → Int32 → Prop} {E13 : Int32 → Int32 → Prop} {E14 : Int64 → Int64 → Prop} {E15 : Int32 → Int32 → Prop} {E16 : Int32 → Int32 → Prop} {E17 : Int32 → Int32 → Prop} {E18 : Int32 → Int32 → Prop} {E20 : Int32 → Int32 → Prop} {E21 : Int32 → Int32 → Prop} {E22 : Int32 → Int32 → Prop} {E23 : Int64 → Int64 → Prop} {E24 : Int32 → Int32 → Prop} {E25 : Int32 → Int32 → Prop} {E26 : Int32 → Int32 → Prop} {E27 : Int32 → Int32 → Prop} {E28 : Int32 → Int32 → Prop} {E29 : Int32 → Int32 → Prop} {E30 : Int32 → Int32 → Prop} {Rel : RelT} (o0 : Op0 E0 Rel) (o1 : Op1 E1 Rel) (o2 : Op2 E2 Rel) (o3 : Op3 E3 Rel) (o4 : Op4 E4 Rel) (o5 : Op5 E5 Rel) (o6 : Op6 E6 Rel) (o7 : Op7 E7 Rel) (o8 : Op8 E8 Rel) (o9 : Op9 E9 Rel) (o10 : Op10 E10 Rel) (o11 : Op11 E11 Rel) (o12 : Op12 E12 Rel) (o13 : Op13 E13 Rel) (o14 : Op14 E14 Rel) (o15 : Op15 E15 Rel) (o16 : Op16 E16 Rel) (o17 : Op17 E17 Rel) (o18 : Op18 E18 Rel) (o19 : Op19 (fun r s => r = s) Rel) (o20 : Op20 E20 Rel) (o21 : Op21 E21 Rel) (o22 : Op22 E22 Rel) (o23 : Op23 E23 Rel) (o24 : Op24 E24 Rel) (o25 : Op25 E25 Rel) (o26 : Op26 E26 Rel) (o27 : Op27 E27 Rel) (o28 : Op28 E28 Rel) (o29 : Op29 E29 Rel) (o30 : Op30 E30 Rel) (hL : L ≤ 3072) (hend : ∀ (ws : va_W) (lv : List (Nat × Value)), J κ 66 1015 ws 1163 lv [.int 1]) : ∀ (n k : Nat) (x3 : Int32), k ≤ L → L < k + n → x3 = nI k → ∀ (f : FF) (v : VV) (g : FF) (u : VV), Rel f v g u → J κ 66 1015 (wM G h f v ++ wE G h5 g u) 18 [(0, .ref b), (1, .ref (h 0)), (2, .ref (h5 0)), (3, .int x3)] [] := by
  intro n
  induction n with
  | zero => intro k x3 h1 h2; omega
  | succ n ih =>
    intro k x3 hk hn ek f v g u hrel
    refine j_iload_n 19 C dL_law_18 rfl 3 rfl ?_
    refine j_aload_n 20 C dL_law_19 rfl 0 rfl ?_
    refine j_slen 21 C hX hbl hbA dL_law_20 rfl ?_
    refine j_bipush 23 C dL_law_21 rfl bc_6 ?_
    refine j_isub 24 C dL_law_23 rfl ?_
    refine j_icmp_gt 27 1162 C dL_law_24 rfl rfl (fun c1 => ?_) (fun c1 => ?_)
    · refine j_iconst 1163 C dL_law_1162 rfl ic_1 ?_
      exact hend _ _
    · have hk6 : k + 6 ≤ L := law_ge hL (by omega) (by rw [← ek]; exact c1)
      have hi0 : vp_in x3 L := by rw [ek]; exact vp_in_nI (by omega) (by omega)
      have hi1 : vp_in (x3 + 1) L := law_ix hL hk6 ek 1 (by omega) rfl
      have hi2 : vp_in (x3 + 2) L := law_ix hL hk6 ek 2 (by omega) rfl
      have hi3 : vp_in (x3 + 3) L := law_ix hL hk6 ek 3 (by omega) rfl
      have hi4 : vp_in (x3 + 4) L := law_ix hL hk6 ek 4 (by omega) rfl
      have hi5 : vp_in (x3 + 5) L := law_ix hL hk6 ek 5 (by omega) rfl
      have K : ∀ (f : FF) (v : VV) (g : FF) (u : VV), Rel f v g u → J κ 66 1015 (wM G h f v ++ wE G h5 g u) 1156 [(0, .ref b), (1, .ref (h 0)), (2, .ref (h5 0)), (3, .int x3)] [] := by
        intro f v g u hrel
        obtain ⟨y3, ey3⟩ : ∃ y : Int32, y = x3 + 6 := ⟨_, rfl⟩
        refine j_iinc 1159 C dL_law_1156 rfl 3 rfl (v := y3) (by rw [ey3]; rfl) (Nat.le_of_ble_eq_true rfl) [1, 2, 3, 0] (lv' := [(0, .ref b), (1, .ref (h 0)), (2, .ref (h5 0)), (3, .int y3)]) rfl ?_
        refine j_goto 18 C dL_law_1159 rfl ?_
        exact ih (k + 6) y3 (by omega) (by omega) (by rw [ey3, ek]; exact nI_add k 6) f v g u hrel
      refine j_aload_n 28 C dL_law_27 rfl 0 rfl ?_
      refine j_iload_n 29 C dL_law_28 rfl 3 rfl ?_
      refine j_sld 30 C hX hbl hbA hi0 dL_law_29 rfl ?_
      refine j_bipush 32 C dL_law_30 rfl bc_31 ?_
      refine j_iand 33 C dL_law_32 rfl ?_
      refine J.topi (fun z ez => ?_)
      by_cases c_0 : z = 0
      · refine j_tableIn 172 C 0 dL_law_33 c_0 (by decide) (by decide) rfl rfl ?_
        exact law_c0 C hX hbl hbA o0 hi1 hi2 hi3 hi4 hrel K
      by_cases c_1 : z = 1
      · refine j_tableIn 225 C 1 dL_law_33 c_1 (by decide) (by decide) rfl rfl ?_
        exact law_c1 C hX hbl hbA o1 hi1 hi2 hrel K
      by_cases c_2 : z = 2
      · refine j_tableIn 258 C 2 dL_law_33 c_2 (by decide) (by decide) rfl rfl ?_
        exact law_c2 C hX hbl hbA o2 hi1 hi2 hrel K
      by_cases c_3 : z = 3
      · refine j_tableIn 291 C 3 dL_law_33 c_3 (by decide) (by decide) rfl rfl ?_
        exact law_c3 C hX hbl hbA o3 hi1 hi2 hrel K
      by_cases c_4 : z = 4
      · refine j_tableIn 324 C 4 dL_law_33 c_4 (by decide) (by decide) rfl rfl ?_
        exact law_c4 C hX hbl hbA o4 hi1 hi2 hrel K
      by_cases c_5 : z = 5
      · refine j_tableIn 357 C 5 dL_law_33 c_5 (by decide) (by decide) rfl rfl ?_
        exact law_c5 C hX hbl hbA o5 hi1 hi2 hrel K
      by_cases c_6 : z = 6
      · refine j_tableIn 390 C 6 dL_law_33 c_6 (by decide) (by decide) rfl rfl ?_
        exact law_c6 C hX hbl hbA o6 hi1 hi2 hi3 hrel K
      by_cases c_7 : z = 7
      · refine j_tableIn 433 C 7 dL_law_33 c_7 (by decide) (by decide) rfl rfl ?_
        exact law_c7 C hX hbl hbA o7 hi1 hi2 hrel K
      by_cases c_8 : z = 8
      · refine j_tableIn 466 C 8 dL_law_33 c_8 (by decide) (by decide) rfl rfl ?_
        exact law_c8 C hX hbl hbA o8 hi1 hi2 hrel K
      by_cases c_9 : z = 9
      · refine j_tableIn 499 C 9 dL_law_33 c_9 (by decide) (by decide) rfl rfl ?_
        exact law_c9 C hX hbl hbA o9 hi1 hi2 hrel K
      by_cases c_10 : z = 10
      · refine j_tableIn 532 C 10 dL_law_33 c_10 (by decide) (by decide) rfl rfl ?_
        exact law_c10 C hX hbl hbA o10  hrel K
      by_cases c_11 : z = 11
      · refine j_tableIn 545 C 11 dL_law_33 c_11 (by decide) (by decide) rfl rfl ?_
        exact law_c11 C hX hbl hbA o11 hi1 hi2 hi3 hi4 hi5 hrel K
      by_cases c_12 : z = 12
      · refine j_tableIn 608 C 12 dL_law_33 c_12 (by decide) (by decide) rfl rfl ?_
        exact law_c12 C hX hbl hbA o12 hi1 hrel K
      by_cases c_13 : z = 13
      · refine j_tableIn 631 C 13 dL_law_33 c_13 (by decide) (by decide) rfl rfl ?_
        exact law_c13 C hX hbl hbA o13 hi1 hi2 hrel K
      by_cases c_14 : z = 14
      · refine j_tableIn 664 C 14 dL_law_33 c_14 (by decide) (by decide) rfl rfl ?_
        exact law_c14 C hX hbl hbA o14 hi1 hrel K
      by_cases c_15 : z = 15
      · refine j_tableIn 687 C 15 dL_law_33 c_15 (by decide) (by decide) rfl rfl ?_
        exact law_c15 C hX hbl hbA o15 hi1 hrel K
      by_cases c_16 : z = 16
      · refine j_tableIn 710 C 16 dL_law_33 c_16 (by decide) (by decide) rfl rfl ?_
        exact law_c16 C hX hbl hbA o16 hi1 hrel K
      by_cases c_17 : z = 17
      · refine j_tableIn 733 C 17 dL_law_33 c_17 (by decide) (by decide) rfl rfl ?_
        exact law_c17 C hX hbl hbA o17 hi1 hrel K
      by_cases c_18 : z = 18
      · refine j_tableIn 756 C 18 dL_law_33 c_18 (by decide) (by decide) rfl rfl ?_
        exact law_c18 C hX hbl hbA o18 hi1 hrel K
      by_cases c_19 : z = 19
      · refine j_tableIn 779 C 19 dL_law_33 c_19 (by decide) (by decide) rfl rfl ?_
        exact law_c19 C hX hbl hbA o19 hi1 hi2 hrel K
      by_cases c_20 : z = 20
      · refine j_tableIn 813 C 20 dL_law_33 c_20 (by decide) (by decide) rfl rfl ?_
        exact law_c20 C hX hbl hbA o20 hi1 hi2 hi3 hrel K
      by_cases c_21 : z = 21
      · refine j_tableIn 856 C 21 dL_law_33 c_21 (by decide) (by decide) rfl rfl ?_
        exact law_c21 C hX hbl hbA o21 hi1 hrel K
      by_cases c_22 : z = 22
      · refine j_tableIn 879 C 22 dL_law_33 c_22 (by decide) (by decide) rfl rfl ?_
        exact law_c22 C hX hbl hbA o22 hi1 hi2 hi3 hrel K
      by_cases c_23 : z = 23
      · refine j_tableIn 922 C 23 dL_law_33 c_23 (by decide) (by decide) rfl rfl ?_
        exact law_c23 C hX hbl hbA o23 hi1 hi2 hi3 hrel K
      by_cases c_24 : z = 24
      · refine j_tableIn 965 C 24 dL_law_33 c_24 (by decide) (by decide) rfl rfl ?_
        exact law_c24 C hX hbl hbA o24 hi1 hi2 hi3 hi4 hi5 hrel K
      by_cases c_25 : z = 25
      · refine j_tableIn 1028 C 25 dL_law_33 c_25 (by decide) (by decide) rfl rfl ?_
        exact law_c25 C hX hbl hbA o25 hi1 hrel K
      by_cases c_26 : z = 26
      · refine j_tableIn 1051 C 26 dL_law_33 c_26 (by decide) (by decide) rfl rfl ?_
        exact law_c26 C hX hbl hbA o26 hi1 hrel K
      by_cases c_27 : z = 27
      · refine j_tableIn 1074 C 27 dL_law_33 c_27 (by decide) (by decide) rfl rfl ?_
        exact law_c27 C hX hbl hbA o27 hi1 hi2 hrel K
      by_cases c_28 : z = 28
      · refine j_tableIn 1107 C 28 dL_law_33 c_28 (by decide) (by decide) rfl rfl ?_
        exact law_c28 C hX hbl hbA o28  hrel K
      by_cases c_29 : z = 29
      · refine j_tableIn 1120 C 29 dL_law_33 c_29 (by decide) (by decide) rfl rfl ?_
        exact law_c29 C hX hbl hbA o29  hrel K
      by_cases c_30 : z = 30
      · refine j_tableIn 1133 C 30 dL_law_33 c_30 (by decide) (by decide) rfl rfl ?_
        exact law_c30 C hX hbl hbA o30 hi1 hrel K
      have y_0 := ne_toInt (z := 0) (by decide) c_0
      have y_1 := ne_toInt (z := 1) (by decide) c_1
      have y_2 := ne_toInt (z := 2) (by decide) c_2
      have y_3 := ne_toInt (z := 3) (by decide) c_3
      have y_4 := ne_toInt (z := 4) (by decide) c_4
      have y_5 := ne_toInt (z := 5) (by decide) c_5
      have y_6 := ne_toInt (z := 6) (by decide) c_6
      have y_7 := ne_toInt (z := 7) (by decide) c_7
      have y_8 := ne_toInt (z := 8) (by decide) c_8
      have y_9 := ne_toInt (z := 9) (by decide) c_9
      have y_10 := ne_toInt (z := 10) (by decide) c_10
      have y_11 := ne_toInt (z := 11) (by decide) c_11
      have y_12 := ne_toInt (z := 12) (by decide) c_12
      have y_13 := ne_toInt (z := 13) (by decide) c_13
      have y_14 := ne_toInt (z := 14) (by decide) c_14
      have y_15 := ne_toInt (z := 15) (by decide) c_15
      have y_16 := ne_toInt (z := 16) (by decide) c_16
      have y_17 := ne_toInt (z := 17) (by decide) c_17
      have y_18 := ne_toInt (z := 18) (by decide) c_18
      have y_19 := ne_toInt (z := 19) (by decide) c_19
      have y_20 := ne_toInt (z := 20) (by decide) c_20
      have y_21 := ne_toInt (z := 21) (by decide) c_21
      have y_22 := ne_toInt (z := 22) (by decide) c_22
      have y_23 := ne_toInt (z := 23) (by decide) c_23
      have y_24 := ne_toInt (z := 24) (by decide) c_24
      have y_25 := ne_toInt (z := 25) (by decide) c_25
      have y_26 := ne_toInt (z := 26) (by decide) c_26
      have y_27 := ne_toInt (z := 27) (by decide) c_27
      have y_28 := ne_toInt (z := 28) (by decide) c_28
      have y_29 := ne_toInt (z := 29) (by decide) c_29
      have y_30 := ne_toInt (z := 30) (by decide) c_30
      refine j_tableOut 1156 C dL_law_33 (by omega) rfl ?_
      exact K f v g u hrel
set_option maxRecDepth 100000 in
set_option maxHeartbeats 8000000 in
theorem law_start {κ : Kx} {G : Gx} {b L : Nat} {xs : Nat → Int32} (C : Cx κ G RL cL_law room_1 4) (hX : va_X b L xs (ks κ) (ks κ).heap) (hbl : b < (ks κ).heap.size) (hbA : ¬ kA κ b) {E0 : Int32 → Int32 → Prop} {E1 : Int32 → Int32 → Prop} {E2 : Int32 → Int32 → Prop} {E3 : Int32 → Int32 → Prop} {E4 : Int32 → Int32 → Prop} {E5 : Int32 → Int32 → Prop} {E6 : Int32 → Int32 → Prop} {E7 : Int32 → Int32 → Prop} {E8 : Int32 → Int32 → Prop} {E9 : Int32 → Int32 → Prop} {E10 : Int32 → Int32 → Prop} {E11 : Int32 → Int32 → Prop} {E12 : Int32 → Int32 → Prop} {E13 : Int32 → Int32 → Prop} {E14 : Int64 → Int64 → Prop} {E15 : Int32 → Int32 → Prop} {E16 : Int32 → Int32 → Prop} {E17 : Int32 → Int32 → Prop} {E18 : Int32 → Int32 → Prop} {E20 : Int32 → Int32 → Prop} {E21 : Int32 → Int32 → Prop} {E22 : Int32 → Int32 → Prop} {E23 : Int64 → Int64 → Prop} {E24 : Int32 → Int32 → Prop} {E25 : Int32 → Int32 → Prop} {E26 : Int32 → Int32 → Prop} {E27 : Int32 → Int32 → Prop} {E28 : Int32 → Int32 → Prop} {E29 : Int32 → Int32 → Prop} {E30 : Int32 → Int32 → Prop} {Rel : RelT} (o0 : Op0 E0 Rel) (o1 : Op1 E1 Rel) (o2 : Op2 E2 Rel) (o3 : Op3 E3 Rel) (o4 : Op4 E4 Rel) (o5 : Op5 E5 Rel) (o6 : Op6 E6 Rel) (o7 : Op7 E7 Rel) (o8 : Op8 E8 Rel) (o9 : Op9 E9 Rel) (o10 : Op10 E10 Rel) (o11 : Op11 E11 Rel) (o12 : Op12 E12 Rel) (o13 : Op13 E13 Rel) (o14 : Op14 E14 Rel) (o15 : Op15 E15 Rel) (o16 : Op16 E16 Rel) (o17 : Op17 E17 Rel) (o18 : Op18 E18 Rel) (o19 : Op19 (fun r s => r = s) Rel) (o20 : Op20 E20 Rel) (o21 : Op21 E21 Rel) (o22 : Op22 E22 Rel) (o23 : Op23 E23 Rel) (o24 : Op24 E24 Rel) (o25 : Op25 E25 Rel) (o26 : Op26 E26 Rel) (o27 : Op27 E27 Rel) (o28 : Op28 E28 Rel) (o29 : Op29 E29 Rel) (o30 : Op30 E30 Rel) (hL : L ≤ 3072) (hend : ∀ (ws : va_W) (lv : List (Nat × Value)), J κ 66 1015 ws 1163 lv [.int 1]) (hrel : Rel f0 vM0 fE0 v0) : J κ 0 0 [] 0 [(0, .ref b)] [] := by
  refine j_new 3 C uX4 tyX4 tyX4_ok kL_7 nX4 zX4 (ci := 4) rfl [.null, .null, .null, .null, .null, .null, .int 0, .int 0, .int 0] (fun j hj => match j, hj with | 0, _ => rfl | 1, _ => rfl | 2, _ => rfl | 3, _ => rfl | 4, _ => rfl | 5, _ => rfl | 6, _ => rfl | 7, _ => rfl | 8, _ => rfl | n + 9, h => absurd h (by omega)) ⟨Nat.le_of_ble_eq_true rfl, Nat.le_of_ble_eq_true rfl⟩ dL_law_0 rfl (fun a1 => ?_)
  refine J.w0 (ws' := [(a1, .inr (4, [.null, .null, .null, .null, .null, .null, .int 0, .int 0, .int 0]))]) rfl ?_
  refine j_dup 4 C dL_law_3 rfl rfl ?_
  refine j_callI 7 C (pre := []) (m_X4_init G a1) oX4_init kL_9 ⟨rfl, rfl⟩ rfl eX4_init ⟨Nat.le_of_ble_eq_true rfl, Nat.le_of_ble_eq_true rfl⟩ ⟨Nat.le_of_ble_eq_true rfl, Nat.le_of_ble_eq_true rfl⟩ rfl (Nat.le_of_ble_eq_true rfl) dL_law_4 rfl (fun h hh => ?_)
  subst hh
  refine J.w0 (ws' := wM G h f0 vM0) rfl ?_
  refine j_astore_n 8 C dL_law_7 rfl (Nat.le_of_ble_eq_true rfl) [1, 0] (lv' := [(0, .ref b), (1, .ref (h 0))]) rfl ?_
  refine j_new 11 C uX5 tyX5 tyX5_ok kL_10 nX5 zX5 (ci := 5) rfl [.int 0, .int 0, .null, .null, .null, .int 0, .int 0, .null, .null, .null, .null, .null, .null, .null, .int 0, .int 0, .int 0, .null, .null, .null, .null, .null, .null, .int 0, .int 0, .null] (fun j hj => match j, hj with | 0, _ => rfl | 1, _ => rfl | 2, _ => rfl | 3, _ => rfl | 4, _ => rfl | 5, _ => rfl | 6, _ => rfl | 7, _ => rfl | 8, _ => rfl | 9, _ => rfl | 10, _ => rfl | 11, _ => rfl | 12, _ => rfl | 13, _ => rfl | 14, _ => rfl | 15, _ => rfl | 16, _ => rfl | 17, _ => rfl | 18, _ => rfl | 19, _ => rfl | 20, _ => rfl | 21, _ => rfl | 22, _ => rfl | 23, _ => rfl | 24, _ => rfl | 25, _ => rfl | n + 26, h => absurd h (by omega)) ⟨Nat.le_of_ble_eq_true rfl, Nat.le_of_ble_eq_true rfl⟩ dL_law_8 rfl (fun a2 => ?_)
  refine j_dup 12 C dL_law_11 rfl rfl ?_
  refine j_callI 15 C (pre := wM G h f0 vM0) (m_X5_init G a2) oX5_init kL_12 ⟨rfl, rfl⟩ rfl eX5_init ⟨Nat.le_of_ble_eq_true rfl, Nat.le_of_ble_eq_true rfl⟩ ⟨Nat.le_of_ble_eq_true rfl, Nat.le_of_ble_eq_true rfl⟩ (by rw [List.append_nil]) (Nat.le_of_ble_eq_true rfl) dL_law_12 rfl (fun h5 hh => ?_)
  subst hh
  refine j_astore_n 16 C dL_law_15 rfl (Nat.le_of_ble_eq_true rfl) [1, 2, 0] (lv' := [(0, .ref b), (1, .ref (h 0)), (2, .ref (h5 0))]) rfl ?_
  refine j_iconst 17 C dL_law_16 rfl ic_0 ?_
  refine j_istore_n 18 C dL_law_17 rfl (Nat.le_of_ble_eq_true rfl) [1, 2, 3, 0] (lv' := [(0, .ref b), (1, .ref (h 0)), (2, .ref (h5 0)), (3, .int 0)]) rfl ?_
  exact law_loop C hX hbl hbA o0 o1 o2 o3 o4 o5 o6 o7 o8 o9 o10 o11 o12 o13 o14 o15 o16 o17 o18 o19 o20 o21 o22 o23 o24 o25 o26 o27 o28 o29 o30 hL hend (L + 1) 0 0 (Nat.zero_le L) (by omega) nI_0.symm _ _ _ _ hrel
set_option maxRecDepth 100000 in
set_option maxHeartbeats 8000000 in
theorem whole_of {p : Program} {e : Env} {s : State} {m : MethodId} {below : List Frame} {meth : Method} {c : Code} (l : Launch) {b L : Nat} {xs : Nat → Int32} (hL : L ≤ 3072) (C0 : lw_At p s m meth c b L xs) {E0 : Int32 → Int32 → Prop} {E1 : Int32 → Int32 → Prop} {E2 : Int32 → Int32 → Prop} {E3 : Int32 → Int32 → Prop} {E4 : Int32 → Int32 → Prop} {E5 : Int32 → Int32 → Prop} {E6 : Int32 → Int32 → Prop} {E7 : Int32 → Int32 → Prop} {E8 : Int32 → Int32 → Prop} {E9 : Int32 → Int32 → Prop} {E10 : Int32 → Int32 → Prop} {E11 : Int32 → Int32 → Prop} {E12 : Int32 → Int32 → Prop} {E13 : Int32 → Int32 → Prop} {E14 : Int64 → Int64 → Prop} {E15 : Int32 → Int32 → Prop} {E16 : Int32 → Int32 → Prop} {E17 : Int32 → Int32 → Prop} {E18 : Int32 → Int32 → Prop} {E20 : Int32 → Int32 → Prop} {E21 : Int32 → Int32 → Prop} {E22 : Int32 → Int32 → Prop} {E23 : Int64 → Int64 → Prop} {E24 : Int32 → Int32 → Prop} {E25 : Int32 → Int32 → Prop} {E26 : Int32 → Int32 → Prop} {E27 : Int32 → Int32 → Prop} {E28 : Int32 → Int32 → Prop} {E29 : Int32 → Int32 → Prop} {E30 : Int32 → Int32 → Prop} {Rel : RelT} (o0 : Op0 E0 Rel) (o1 : Op1 E1 Rel) (o2 : Op2 E2 Rel) (o3 : Op3 E3 Rel) (o4 : Op4 E4 Rel) (o5 : Op5 E5 Rel) (o6 : Op6 E6 Rel) (o7 : Op7 E7 Rel) (o8 : Op8 E8 Rel) (o9 : Op9 E9 Rel) (o10 : Op10 E10 Rel) (o11 : Op11 E11 Rel) (o12 : Op12 E12 Rel) (o13 : Op13 E13 Rel) (o14 : Op14 E14 Rel) (o15 : Op15 E15 Rel) (o16 : Op16 E16 Rel) (o17 : Op17 E17 Rel) (o18 : Op18 E18 Rel) (o19 : Op19 (fun r s => r = s) Rel) (o20 : Op20 E20 Rel) (o21 : Op21 E21 Rel) (o22 : Op22 E22 Rel) (o23 : Op23 E23 Rel) (o24 : Op24 E24 Rel) (o25 : Op25 E25 Rel) (o26 : Op26 E26 Rel) (o27 : Op27 E27 Rel) (o28 : Op28 E28 Rel) (o29 : Op29 E29 Rel) (o30 : Op30 E30 Rel) (hrel : Rel f0 vM0 fE0 v0) : W p l e room_1 s m #[Value.ref b] below meth c s.heap [] 0 0 (lw_Z below #[Value.ref b] s) (entryFrame m ([Value.ref b] : List Value).toArray 4) := by
  obtain ⟨hx, hb, hr, hml, hown, hts, hX, hbl, hlocks, hgv⟩ := id C0
  have htg : ∀ w ∈ gW, w.before #[Value.ref b] s = true := fun w hw => hts w (gW_in w hw)
  obtain ⟨c0, iS0, hKn0⟩ := u_known (C := RX0) (T := TX0) (N := 7) (n := 7) htg uX0 (htg (.instantiable RX0 7) nX0)
  obtain ⟨c1, iS1, hKn1⟩ := u_known (C := RX1) (T := TX1) (N := 11) (n := 11) htg uX1 (htg (.instantiable RX1 11) nX1)
  obtain ⟨c2, iS2, hKn2⟩ := u_known (C := RX2) (T := TX2) (N := 3) (n := 3) htg uX2 (htg (.instantiable RX2 3) nX2)
  obtain ⟨c3, iS3, hKn3⟩ := u_known (C := RX3) (T := TX3) (N := 4) (n := 4) htg uX3 (htg (.instantiable RX3 4) nX3)
  obtain ⟨c4, iS4, hKn4⟩ := u_known (C := RX4) (T := TX4) (N := 9) (n := 9) htg uX4 (htg (.instantiable RX4 9) nX4)
  obtain ⟨c5, iS5, hKn5⟩ := u_known (C := RX5) (T := TX5) (N := 26) (n := 26) htg uX5 (htg (.instantiable RX5 26) nX5)
  obtain ⟨dC, dI, hKc⟩ : ∃ (dC : Nat → ClassId) (dI : Nat → Nat → Nat), ∀ (k : Nat) (q : vw_C), vwCl[k]? = some q → u_Kn s q.1 q.2.1 q.2.2 (dC k) (dI k) := by
    refine ⟨fun k => if k = 0 then c0 else if k = 1 then c1 else if k = 2 then c2 else if k = 3 then c3 else if k = 4 then c4 else c5, fun k => if k = 0 then iS0 else if k = 1 then iS1 else if k = 2 then iS2 else if k = 3 then iS3 else if k = 4 then iS4 else iS5, ?_⟩
    intro k q hq
    match k, hq with
    | 0, hq => cases hq; exact hKn0
    | 1, hq => cases hq; exact hKn1
    | 2, hq => cases hq; exact hKn2
    | 3, hq => cases hq; exact hKn3
    | 4, hq => cases hq; exact hKn4
    | 5, hq => cases hq; exact hKn5
    | k + 6, hq => simp [vwCl] at hq
  obtain ⟨cI, kI, cpI, hI1, hI2, hI3⟩ := Cond.arrayClass_spec (htg _ z_arrI)
  obtain ⟨cpS, cS, kS, hS1, -, hS2, hS3, hS4⟩ := Cond.arrayOver_spec (hts _ z_over)
  have hK : va_K (dC, dI) vwCl (tys2 cI cS) s := by
    refine ⟨hKc, fun k q hk => ?_⟩
    match k, hk with
    | 0, hk =>
      cases hk
      exact ⟨fun n z => ⟨(fun k h => by cases h), kI, hI2, cpI, hI3⟩, hI1⟩
    | 1, hk =>
      cases hk
      exact ⟨fun n z => ⟨(fun k h => by cases h), kS, hS2, cpS, hS3⟩, ⟨kS, cpS, hS2, hS3, hS1, hS4⟩⟩
    | k + 2, hk => simp [tys2] at hk
  have hs := flat_of_before _ hgv
  have hAo : ∀ a : Nat, a < s.heap.size → ¬ (fun q : Nat => s.heap.size ≤ q) a := fun a ha => Nat.not_le.mpr ha
  obtain ⟨tW, hW1, hW2⟩ := va_Tof (A := fun q : Nat => s.heap.size ≤ q) (N := 5) (f := tbW) (by decide) (hs (Cond.arrayOf (.static RX3 "WAY_CODES" "[I") .int) (by decide +kernel)) (va_eqt (hs (Cond.eq (.length (.static RX3 "WAY_CODES" "[I")) (.int 5)) (by decide +kernel))) (fun j hj => match j, hj with
    | 0, _ => va_eqt (hs (Cond.eq (.elem (.static RX3 "WAY_CODES" "[I") (.int 0)) (.int 97)) (by decide +kernel))
    | 1, _ => va_eqt (hs (Cond.eq (.elem (.static RX3 "WAY_CODES" "[I") (.int 1)) (.int 115)) (by decide +kernel))
    | 2, _ => va_eqt (hs (Cond.eq (.elem (.static RX3 "WAY_CODES" "[I") (.int 2)) (.int 109)) (by decide +kernel))
    | 3, _ => va_eqt (hs (Cond.eq (.elem (.static RX3 "WAY_CODES" "[I") (.int 3)) (.int 103)) (by decide +kernel))
    | 4, _ => va_eqt (hs (Cond.eq (.elem (.static RX3 "WAY_CODES" "[I") (.int 4)) (.int 108)) (by decide +kernel))) hAo
  obtain ⟨tK, hK1, hK2⟩ := va_Tof (A := fun q : Nat => s.heap.size ≤ q) (N := 3) (f := tbK) (by decide) (hs (Cond.arrayOf (.static RX3 "KIND_CODES" "[I") .int) (by decide +kernel)) (va_eqt (hs (Cond.eq (.length (.static RX3 "KIND_CODES" "[I")) (.int 3)) (by decide +kernel))) (fun j hj => match j, hj with
    | 0, _ => va_eqt (hs (Cond.eq (.elem (.static RX3 "KIND_CODES" "[I") (.int 0)) (.int 80)) (by decide +kernel))
    | 1, _ => va_eqt (hs (Cond.eq (.elem (.static RX3 "KIND_CODES" "[I") (.int 1)) (.int 83)) (by decide +kernel))
    | 2, _ => va_eqt (hs (Cond.eq (.elem (.static RX3 "KIND_CODES" "[I") (.int 2)) (.int 68)) (by decide +kernel))) hAo
  have hE : Ev tW tK (fun q : Nat => s.heap.size ≤ q) s s.heap := ⟨va_Nw.of rfl (hts _ (gt2 6 rfl)), va_Nw.of rfl (hts _ (gt1 20 rfl)), va_Nw.of rfl (hts _ (gt1 40 rfl)), va_Nw.of rfl (hts _ (gt1 99 rfl)), va_Nw.of rfl (hts _ (gt1 104 rfl)), va_Nw.of rfl (hts _ (gt1 122 rfl)), va_Zof (hts (.laysStatic RX3 "WAY_CODES" "[I") (gt1 233 rfl)) (htg _ zX3) hW1 hAo, hW2, va_Zof (hts (.laysStatic RX3 "KIND_CODES" "[I") (gt2 16 rfl)) (htg _ zX3) hK1 hAo, hK2, va_AO.of (hts _ z_over)⟩
  have key := law_start (κ := (p, l, e, room_1, s, m, #[Value.ref b], below, meth, c, (dC, dI), (fun q : Nat => s.heap.size ≤ q), 4, lw_Z below #[Value.ref b] s)) (G := ((dC, dI), cI, cS, tW, tK)) ⟨hx, hb, hml, hown, htg, hK, fun _ h => h, rfl, rfl, rfl, hE⟩ hX hbl (Nat.not_le.mpr hbl) o0 o1 o2 o3 o4 o5 o6 o7 o8 o9 o10 o11 o12 o13 o14 o15 o16 o17 o18 o19 o20 o21 o22 o23 o24 o25 o26 o27 o28 o29 o30 hL (fun ws lv H locs ls hP hD hS hl => va_forget (fun q hq => hS.2.2 q hq) (W.widen (k := 600000) (n := 7302250) (Nat.le_of_ble_eq_true rfl) (Nat.le_of_ble_eq_true rfl) (lw_ret hx hb hr hlocks dL_law_1163))) hrel
  rw [lg_entry_eq]
  exact key s.heap [] _ (fun k q h => by simp at h) ⟨fun i j p q h => by simp at h, fun k q h => by simp at h⟩ va_S.rf (lv_entry ([.ref b]) (n := 4) (Nat.le_of_ble_eq_true rfl))
