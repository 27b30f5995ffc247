/-! ===== worlds in another order; the class's own world ===== -/
theorem va_P.perm {D : va_G} {cl : List vw_C} {ws ws' : va_W} {H : Heap} (h : ws.Perm ws') (hP : va_P D cl ws H) : va_P D cl ws' H := fun k q hk => by
  obtain ⟨i, hi⟩ := List.getElem?_of_mem (h.mem_iff.mpr (List.mem_of_getElem? hk))
  exact hP i q hi
theorem va_D.nd {A : Nat → Prop} {ws : va_W} (h : va_D A ws) : (ws.map Prod.fst).Nodup := by
  refine List.pairwise_iff_getElem.mpr (fun i j hi hj hij e => ?_)
  rw [List.length_map] at hi hj
  rw [List.getElem_map, List.getElem_map] at e
  have := h.1 i j ws[i] ws[j] (List.getElem?_eq_getElem hi) (List.getElem?_eq_getElem hj) e
  omega
theorem va_D.of {A : Nat → Prop} {ws : va_W} (hn : (ws.map Prod.fst).Nodup) (hA : ∀ q ∈ ws, A q.1) : va_D A ws := by
  refine ⟨fun i j p q hi hj e => ?_, fun k q hk => hA q (List.mem_of_getElem? hk)⟩
  obtain ⟨hi1, hi2⟩ := List.getElem?_eq_some_iff.mp hi
  obtain ⟨hj1, hj2⟩ := List.getElem?_eq_some_iff.mp hj
  have hp := List.pairwise_iff_getElem.mp hn
  rcases Nat.lt_trichotomy i j with h | h | h
  · exact absurd (by rw [List.getElem_map, List.getElem_map, hi2, hj2]; exact e) (hp i j (by rw [List.length_map]; exact hi1) (by rw [List.length_map]; exact hj1) h)
  · exact h
  · exact absurd (by rw [List.getElem_map, List.getElem_map, hi2, hj2]; exact e.symm) (hp j i (by rw [List.length_map]; exact hj1) (by rw [List.length_map]; exact hi1) h)
theorem va_D.perm {A : Nat → Prop} {ws ws' : va_W} (h : ws.Perm ws') (hD : va_D A ws) : va_D A ws' :=
  va_D.of ((h.map Prod.fst).nodup_iff.mp hD.nd) (fun q hq => by
    obtain ⟨i, hi⟩ := List.getElem?_of_mem (h.mem_iff.mpr hq)
    exact hD.2 i q hi)
theorem J.perm {κ : Kx} {n1 n2 : Nat} {ws ws' : va_W} {pc : Nat} {lv : List (Nat × Value)} {st : List Value} (h : ws.Perm ws') (k : J κ n1 n2 ws' pc lv st) : J κ n1 n2 ws pc lv st := fun H locs ls hP hD hS hl => k H locs ls (hP.perm h) (hD.perm h) hS hl
theorem vp_lt4 {i : Int32} (h : vp_in i 4) : i.toNatClampNeg < 4 := Nat.lt_of_not_le (fun z => h (Or.inr z))
/-- two parts of rows (numbers), one behind the other -/
def jn {α : Type} (f : Nat → α) (a n b : Nat) : Nat → α := fun j => if j < n then f (a + j) else f (b + (j - n))
section SH
variable {G : Gx} {h : Nat → Nat} {f : FF} {v : VV} {k : Nat}
theorem shO (hk : k < 4) : (wM G h f v)[3 + 2 * k]? = some (h (3 + 2 * k), .inr (2, [.ref (h (3 + 2 * k + 1)), .int (v (3 + 2 * k)), .int (v (3 + 2 * k + 1))])) := by
  match k, hk with
  | 0, _ => rfl
  | 1, _ => rfl
  | 2, _ => rfl
  | 3, _ => rfl
theorem shA (hk : k < 4) : (wM G h f v)[3 + 2 * k + 1]? = some (h (3 + 2 * k + 1), .inl (G.2.1, 60, .inl (f (1 + k)))) := by
  match k, hk with
  | 0, _ => rfl
  | 1, _ => rfl
  | 2, _ => rfl
  | 3, _ => rfl
theorem shS (hk : k < 4) : wM G h f v = List.take (3 + 2 * k) (wM G h f v) ++ (wS G (sb h (3 + 2 * k)) (sb f (1 + k)) (sb v (3 + 2 * k)) ++ List.drop (3 + 2 * k + 2) (wM G h f v)) := by
  match k, hk with
  | 0, _ => rfl
  | 1, _ => rfl
  | 2, _ => rfl
  | 3, _ => rfl
theorem shM (hk : k < 4) (f' : FF) (v' : VV) : List.take (3 + 2 * k) (wM G h f v) ++ (wS G (sb h (3 + 2 * k)) f' v' ++ List.drop (3 + 2 * k + 2) (wM G h f v)) = wM G h (mg f (1 + k) 1 f') (mg v (3 + 2 * k) 2 v') := by
  match k, hk with
  | 0, _ => rfl
  | 1, _ => rfl
  | 2, _ => rfl
  | 3, _ => rfl
theorem shW (hk : k < 4) (g : Nat → Int32) : (wM G h f v).set (3 + 2 * k + 1) (h (3 + 2 * k + 1), .inl (G.2.1, 60, .inl g)) = wM G h (fu f (1 + k) g) v := by
  match k, hk with
  | 0, _ => rfl
  | 1, _ => rfl
  | 2, _ => rfl
  | 3, _ => rfl
theorem pm1 {α : Type} (A P T R K : List α) : (A ++ (P ++ (T ++ (R ++ K)))).Perm (A ++ ((P ++ K) ++ (T ++ R))) := by
  refine List.Perm.append_left A ?_
  rw [List.append_assoc]
  refine List.Perm.append_left P ?_
  rw [← List.append_assoc]
  exact List.perm_append_comm
theorem pm2 {α : Type} (A P R K : List α) : (A ++ (P ++ (R ++ K))).Perm (A ++ ((P ++ K) ++ R)) := by
  refine List.Perm.append_left A ?_
  rw [List.append_assoc]
  exact List.Perm.append_left P List.perm_append_comm
theorem pm3 {α : Type} (A S M R K : List α) : (A ++ (S ++ (M ++ (R ++ K)))).Perm (A ++ ((S ++ R) ++ (M ++ K))) := by
  refine List.Perm.append_left A ?_
  rw [List.append_assoc]
  refine List.Perm.append_left S ?_
  rw [← List.append_assoc, ← List.append_assoc]
  exact List.Perm.append_right K List.perm_append_comm
theorem pm4 {α : Type} (A N T X : List α) : (A ++ (N ++ (T ++ X))).Perm (A ++ ((T ++ N) ++ X)) := by
  refine List.Perm.append_left A ?_
  rw [← List.append_assoc]
  exact List.Perm.append_right X List.perm_append_comm
abbrev mA (G : Gx) (h : Nat → Nat) (f : FF) (v : VV) : va_W := List.take 11 (wM G h f v)
abbrev mN (G : Gx) (h : Nat → Nat) (f : FF) (v : VV) : va_W := wP G (sb h 11) (sb f 5) (sb v 11)
abbrev mT (G : Gx) (h : Nat → Nat) (f : FF) (v : VV) : va_W := wP G (sb h 21) (sb f 14) (sb v 13)
abbrev mR (G : Gx) (h : Nat → Nat) (f : FF) (v : VV) : va_W := wR G (sb h 31) (sb f 23) (sb v 15)
abbrev mR2 (G : Gx) (h : Nat → Nat) (f : FF) (v : VV) : va_W := List.take 2 (wR G (sb h 31) (sb f 23) (sb v 15))
abbrev mK (G : Gx) (h : Nat → Nat) (f : FF) (v : VV) : va_W := wK G (sb h 43) (sb f 33) (sb v 19)
/-- kills and what is now -/
theorem pmN : (wM G h f v).Perm (mA G h f v ++ (wPK G (jn h 11 10 43) (jn f 5 9 33) (jn v 11 2 19) ++ (mT G h f v ++ mR G h f v))) := by
  show (mA G h f v ++ (mN G h f v ++ (mT G h f v ++ (mR G h f v ++ mK G h f v)))).Perm (mA G h f v ++ ((mN G h f v ++ mK G h f v) ++ (mT G h f v ++ mR G h f v)))
  exact pm1 _ _ _ _ _
theorem pmN' (f' : FF) (v' : VV) : (mA G h f v ++ (wPK G (jn h 11 10 43) f' v' ++ (mT G h f v ++ mR G h f v))).Perm (wM G h (mg (mg f 5 9 f') 33 4 (sb f' 9)) (mg (mg v 11 2 v') 19 3 (sb v' 2))) := by
  show (mA G h f v ++ ((wP G (sb h 11) f' v' ++ wK G (sb h 43) (sb f' 9) (sb v' 2)) ++ (mT G h f v ++ mR G h f v))).Perm (mA G h f v ++ (wP G (sb h 11) f' v' ++ (mT G h f v ++ (mR G h f v ++ wK G (sb h 43) (sb f' 9) (sb v' 2)))))
  exact (pm1 _ _ _ _ _).symm
/-- kills and the trial -/
theorem pmT : (wM G h f v).Perm ((mA G h f v ++ mN G h f v) ++ (wPK G (jn h 21 10 43) (jn f 14 9 33) (jn v 13 2 19) ++ mR G h f v)) := by
  show ((mA G h f v ++ mN G h f v) ++ (mT G h f v ++ (mR G h f v ++ mK G h f v))).Perm ((mA G h f v ++ mN G h f v) ++ ((mT G h f v ++ mK G h f v) ++ mR G h f v))
  exact pm2 _ _ _ _
theorem pmT' (f' : FF) (v' : VV) : ((mA G h f v ++ mN G h f v) ++ (wPK G (jn h 21 10 43) f' v' ++ mR G h f v)).Perm (wM G h (mg (mg f 14 9 f') 33 4 (sb f' 9)) (mg (mg v 13 2 v') 19 3 (sb v' 2))) := by
  show ((mA G h f v ++ mN G h f v) ++ ((wP G (sb h 21) f' v' ++ wK G (sb h 43) (sb f' 9) (sb v' 2)) ++ mR G h f v)).Perm ((mA G h f v ++ mN G h f v) ++ (wP G (sb h 21) f' v' ++ (mR G h f v ++ wK G (sb h 43) (sb f' 9) (sb v' 2))))
  exact (pm2 _ _ _ _).symm
/-- what is now, and what was read -/
theorem pmB : (wM G h f v).Perm (mA G h f v ++ (wPP G (jn h 11 10 33) (jn f 5 9 24) (jn v 11 2 17) ++ ((mT G h f v ++ mR2 G h f v) ++ mK G h f v))) := by
  show (mA G h f v ++ (mN G h f v ++ ((mT G h f v ++ mR2 G h f v) ++ (wP G (sb h 33) (sb f 24) (sb v 17) ++ mK G h f v)))).Perm (mA G h f v ++ ((mN G h f v ++ wP G (sb h 33) (sb f 24) (sb v 17)) ++ ((mT G h f v ++ mR2 G h f v) ++ mK G h f v)))
  exact pm3 _ _ _ _ _
theorem pmB' (f' : FF) (v' : VV) : (mA G h f v ++ (wPP G (jn h 11 10 33) f' v' ++ ((mT G h f v ++ mR2 G h f v) ++ mK G h f v))).Perm (wM G h (mg (mg f 5 9 f') 24 9 (sb f' 9)) (mg (mg v 11 2 v') 17 2 (sb v' 2))) := by
  show (mA G h f v ++ ((wP G (sb h 11) f' v' ++ wP G (sb h 33) (sb f' 9) (sb v' 2)) ++ ((mT G h f v ++ mR2 G h f v) ++ mK G h f v))).Perm (mA G h f v ++ (wP G (sb h 11) f' v' ++ ((mT G h f v ++ mR2 G h f v) ++ (wP G (sb h 33) (sb f' 9) (sb v' 2) ++ mK G h f v))))
  exact (pm3 _ _ _ _ _).symm
/-- the trial, and what is now -/
theorem pmC : (wM G h f v).Perm (mA G h f v ++ (wPP G (jn h 21 10 11) (jn f 14 9 5) (jn v 13 2 11) ++ (mR G h f v ++ mK G h f v))) := by
  show (mA G h f v ++ (mN G h f v ++ (mT G h f v ++ (mR G h f v ++ mK G h f v)))).Perm (mA G h f v ++ ((mT G h f v ++ mN G h f v) ++ (mR G h f v ++ mK G h f v)))
  exact pm4 _ _ _ _
theorem pmC' (f' : FF) (v' : VV) : (mA G h f v ++ (wPP G (jn h 21 10 11) f' v' ++ (mR G h f v ++ mK G h f v))).Perm (wM G h (mg (mg f 14 9 f') 5 9 (sb f' 9)) (mg (mg v 13 2 v') 11 2 (sb v' 2))) := by
  show (mA G h f v ++ ((wP G (sb h 21) f' v' ++ wP G (sb h 11) (sb f' 9) (sb v' 2)) ++ (mR G h f v ++ mK G h f v))).Perm (mA G h f v ++ (wP G (sb h 11) (sb f' 9) (sb v' 2) ++ (wP G (sb h 21) f' v' ++ (mR G h f v ++ mK G h f v))))
  exact (pm4 _ _ _ _).symm
/-- a sheet and the reader -/
abbrev mS (G : Gx) (h : Nat → Nat) (f : FF) (v : VV) (k : Nat) : va_W := List.take (26 - 2 * k) (List.drop (5 + 2 * k) (wM G h f v))
theorem pmR (hk : k < 4) : (wM G h f v).Perm (List.take (3 + 2 * k) (wM G h f v) ++ (wSR G (jn h (3 + 2 * k) 2 31) (jn f (1 + k) 1 23) (jn v (3 + 2 * k) 2 15) ++ (mS G h f v k ++ mK G h f v))) := by
  have key : (List.take (3 + 2 * k) (wM G h f v) ++ (wS G (sb h (3 + 2 * k)) (sb f (1 + k)) (sb v (3 + 2 * k)) ++ (mS G h f v k ++ (mR G h f v ++ mK G h f v)))).Perm (List.take (3 + 2 * k) (wM G h f v) ++ ((wS G (sb h (3 + 2 * k)) (sb f (1 + k)) (sb v (3 + 2 * k)) ++ mR G h f v) ++ (mS G h f v k ++ mK G h f v))) := pm3 _ _ _ _ _
  match k, hk, key with
  | 0, _, key => exact key
  | 1, _, key => exact key
  | 2, _, key => exact key
  | 3, _, key => exact key
theorem pmR' (hk : k < 4) (f' : FF) (v' : VV) : (List.take (3 + 2 * k) (wM G h f v) ++ (wSR G (jn h (3 + 2 * k) 2 31) f' v' ++ (mS G h f v k ++ mK G h f v))).Perm (wM G h (mg (mg f (1 + k) 1 f') 23 10 (sb f' 1)) (mg (mg v (3 + 2 * k) 2 v') 15 4 (sb v' 2))) := by
  have key : (List.take (3 + 2 * k) (wM G h f v) ++ ((wS G (sb h (3 + 2 * k)) f' v' ++ wR G (sb h 31) (sb f' 1) (sb v' 2)) ++ (mS G h f v k ++ mK G h f v))).Perm (List.take (3 + 2 * k) (wM G h f v) ++ (wS G (sb h (3 + 2 * k)) f' v' ++ (mS G h f v k ++ (wR G (sb h 31) (sb f' 1) (sb v' 2) ++ mK G h f v)))) := (pm3 _ _ _ _ _).symm
  match k, hk, key with
  | 0, _, key => exact key
  | 1, _, key => exact key
  | 2, _, key => exact key
  | 3, _, key => exact key
end SH
