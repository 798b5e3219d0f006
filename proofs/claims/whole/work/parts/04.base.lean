/-! ===== the pure store, and worlds of a fixed shape ===== -/
abbrev ba_St : Type := (Nat → Nat → Int32) × (Nat → Nat → Int64)
def ba_w (σ : ba_St) (k j : Nat) (v : Int32) : ba_St := (fun p q => if p = k ∧ q = j then v else σ.1 p q, σ.2)
def ba_wl (σ : ba_St) (k j : Nat) (v : Int64) : ba_St := (σ.1, fun p q => if p = k ∧ q = j then v else σ.2 p q)
def ba_cp (σ : ba_St) (a b sp dp n : Nat) : ba_St := (fun p q => if p = b then va_cpy (σ.1 a) (σ.1 b) sp dp n q else σ.1 p q, σ.2)
/-- an object (its class's number; of each field the place of the cell, or a number) or an array of ints, of longs, of references -/
abbrev ba_Shp : Type := (Nat × List (Option Nat)) ⊕ (Nat ⊕ Nat ⊕ (Nat × Nat × Nat × Nat))
def ba_fv (ad : Nat → Nat) (f : Nat → Int32) (j : Nat) (o : Option Nat) : Value := match o with
  | some p => .ref (ad p)
  | none => .int (f j)
def ba_fl (ad : Nat → Nat) (f : Nat → Int32) : Nat → List (Option Nat) → List Value
  | _, [] => []
  | j, o :: l => ba_fv ad f j o :: ba_fl ad f (j + 1) l
def ba_ent (ad : Nat → Nat) (cA : Nat → ClassId) (x : ba_Shp) (f : Nat → Int32) (g : Nat → Int64) : va_E := match x with
  | .inl o => .inr (o.1, ba_fl ad f 0 o.2)
  | .inr (.inl n) => .inl (cA 0, n, .inl f)
  | .inr (.inr (.inl n)) => .inl (cA 1, n, .inr (.inl g))
  | .inr (.inr (.inr r)) => .inl (cA r.1, r.2.1, .inr (.inr (.inr (.inr (fun i => some (ad (r.2.2.1 + r.2.2.2 * i)))))))
/-- a world's table: shapes, how many places, the classes, the array types, the static tables, the nest's words -/
abbrev ba_T : Type := (Nat → ba_Shp) × Nat × List vw_C × List FieldType × List (String × String × List Int32) × List Cond
/-- where a world lies: addresses, the array classes, the classes' numbers -/
abbrev ba_W : Type := (Nat → Nat) × (Nat → ClassId) × va_G × (Nat → Nat)
def ba_ws (T : ba_T) (w : ba_W) (σ : ba_St) : va_W := (List.range T.2.1).map fun k => (w.1 k, ba_ent w.1 w.2.1 (T.1 k) (σ.1 k) (σ.2 k))
def ba_tys (T : ba_T) (w : ba_W) : List (ClassId × FieldType) := (List.range T.2.2.2.1.length).map fun t => (w.2.1 t, T.2.2.2.1.getD t .int)
def ba_A (T : ba_T) (w : ba_W) : Nat → Prop := fun q => ∃ k, k < T.2.1 ∧ q = w.1 k
def ba_inj (T : ba_T) (w : ba_W) : Prop := ∀ i j, i < T.2.1 → j < T.2.1 → w.1 i = w.1 j → i = j
theorem ba_ws_at {T : ba_T} {w : ba_W} {σ : ba_St} {k : Nat} (h : k < T.2.1) : (ba_ws T w σ)[k]? = some (w.1 k, ba_ent w.1 w.2.1 (T.1 k) (σ.1 k) (σ.2 k)) := by
  unfold ba_ws
  rw [List.getElem?_map, List.getElem?_range h]
  rfl
theorem ba_ws_set {T : ba_T} {w : ba_W} {σ σ' : ba_St} {k : Nat} {e : va_E} (he : e = ba_ent w.1 w.2.1 (T.1 k) (σ'.1 k) (σ'.2 k)) (ho : ∀ p, p ≠ k → σ'.1 p = σ.1 p ∧ σ'.2 p = σ.2 p) : (ba_ws T w σ).set k (w.1 k, e) = ba_ws T w σ' := by
  unfold ba_ws
  apply List.ext_getElem?
  intro i
  rw [List.getElem?_set]
  by_cases hi : k = i
  · subst hi
    rw [if_pos rfl]
    by_cases hk : k < T.2.1
    · rw [if_pos (by simpa using hk), List.getElem?_map, List.getElem?_range hk, he]
      rfl
    · rw [if_neg (by simpa using hk)]
      symm
      simpa using hk
  · rw [if_neg hi, List.getElem?_map, List.getElem?_map]
    by_cases hk : i < T.2.1
    · rw [List.getElem?_range hk]
      simp only [Option.map_some]
      rw [(ho i (Ne.symm hi)).1, (ho i (Ne.symm hi)).2]
    · rw [List.getElem?_eq_none (by simpa using hk)]
      rfl
theorem ba_ws_D {T : ba_T} {w : ba_W} (h : ba_inj T w) (σ : ba_St) : va_D (ba_A T w) (ba_ws T w σ) := by
  have key : ∀ (k : Nat) (q : Nat × va_E), (ba_ws T w σ)[k]? = some q → k < T.2.1 ∧ q.1 = w.1 k := by
    intro k q hq
    have hk : k < T.2.1 := by
      have := (List.getElem?_eq_some_iff.mp hq).1
      simpa [ba_ws] using this
    rw [ba_ws_at hk] at hq
    cases hq
    exact ⟨hk, rfl⟩
  refine ⟨fun i j p q hi hj e => ?_, fun k q hq => ?_⟩
  · obtain ⟨a1, a2⟩ := key i p hi
    obtain ⟨b1, b2⟩ := key j q hj
    exact h i j a1 b1 (by rw [← a2, ← b2]; exact e)
  · obtain ⟨a1, a2⟩ := key k q hq
    exact ⟨k, a1, a2⟩
theorem ba_fl_at {ad : Nat → Nat} {f : Nat → Int32} : ∀ {l : List (Option Nat)} {i j : Nat} {o : Option Nat}, l[j]? = some o → (ba_fl ad f i l)[j]? = some (ba_fv ad f (i + j) o)
  | [], i, j, o, h => by simp at h
  | a :: l, i, 0, o, h => by
    simp only [List.getElem?_cons_zero, Option.some.injEq] at h
    subst h
    rfl
  | a :: l, i, j + 1, o, h => by
    rw [List.getElem?_cons_succ] at h
    show (ba_fl ad f (i + 1) l)[j]? = _
    rw [ba_fl_at h, Nat.add_right_comm, Nat.add_assoc]
theorem ba_fl_len {ad : Nat → Nat} {f : Nat → Int32} : ∀ {l : List (Option Nat)} {i : Nat}, (ba_fl ad f i l).length = l.length
  | [], i => rfl
  | a :: l, i => by
    show (ba_fl ad f (i + 1) l).length + 1 = l.length + 1
    rw [ba_fl_len]
theorem ba_fl_cong {ad : Nat → Nat} {f g : Nat → Int32} : ∀ {l : List (Option Nat)} {i : Nat}, (∀ q, i ≤ q → f q = g q) → ba_fl ad f i l = ba_fl ad g i l
  | [], i, _ => rfl
  | a :: l, i, h => by
    show ba_fv ad f i a :: ba_fl ad f (i + 1) l = ba_fv ad g i a :: ba_fl ad g (i + 1) l
    rw [ba_fl_cong (f := f) (g := g) (fun q hq => h q (by omega))]
    congr 1
    cases a with
    | some p => rfl
    | none => show Value.int (f i) = Value.int (g i); rw [h i (Nat.le_refl i)]
theorem ba_fl_set {ad : Nat → Nat} {f g : Nat → Int32} {v : Int32} : ∀ {l : List (Option Nat)} {i j : Nat}, l[j]? = some none → g (i + j) = v → (∀ q, q ≠ i + j → g q = f q) → (ba_fl ad f i l).set j (.int v) = ba_fl ad g i l
  | [], i, j, h, _, _ => by simp at h
  | a :: l, i, 0, h, hv, ho => by
    simp only [List.getElem?_cons_zero, Option.some.injEq] at h
    subst h
    show Value.int v :: ba_fl ad f (i + 1) l = Value.int (g i) :: ba_fl ad g (i + 1) l
    rw [show g i = v from hv]
    congr 1
    exact ba_fl_cong (fun q hq => (ho q (by omega)).symm)
  | a :: l, i, j + 1, h, hv, ho => by
    rw [List.getElem?_cons_succ] at h
    show ba_fv ad f i a :: (ba_fl ad f (i + 1) l).set j (.int v) = ba_fv ad g i a :: ba_fl ad g (i + 1) l
    have e : i + 1 + j = i + (j + 1) := by omega
    rw [ba_fl_set (f := f) (g := g) (i := i + 1) h (by rw [e]; exact hv) (fun q hq => ho q (by omega))]
    congr 1
    cases a with
    | some p => rfl
    | none => show Value.int (f i) = Value.int (g i); rw [ho i (by omega)]
/-! ===== pure steps ===== -/
def ba_ix (i : Int32) : Nat := i.toNatClampNeg
def ba_inb (i : Int32) (n : Nat) : Bool := decide (0 ≤ i) && decide (i.toNatClampNeg < n)
theorem ba_inb_in {i : Int32} {n : Nat} (h : ba_inb i n = true) : vp_in i n := by
  unfold ba_inb at h
  simp only [Bool.and_eq_true, decide_eq_true_eq] at h
  intro q
  rcases q with q | q
  · exact absurd (Int32.lt_of_le_of_lt h.1 q) (Int32.lt_irrefl)
  · omega
def ba_grd {α : Type} (b : Bool) (x : Option α) : Option α := match b with
  | true => x
  | false => none
def ba_lt {α β : Type} (v : α) (f : α → β) : β := f v
def ba_bnd {α β : Type} (x : Option α) (f : α → Option β) : Option β := match x with
  | none => none
  | some a => f a
def ba_bn2 {α β γ : Type} (x : Option (α × β)) (f : α → β → Option γ) : Option γ := match x with
  | none => none
  | some a => f a.1 a.2
def ba_fix {A O : Type} (F : (A → Option O) → A → Option O) : Nat → A → Option O
  | 0, _ => none
  | n + 1, a => F (ba_fix F n) a
theorem ba_grd_some {α : Type} {b : Bool} {x : Option α} {r : α} (h : ba_grd b x = some r) : b = true ∧ x = some r := by
  cases b with
  | false => cases h
  | true => exact ⟨rfl, h⟩
theorem ba_bnd_some {α β : Type} {x : Option α} {f : α → Option β} {r : β} (h : ba_bnd x f = some r) : ∃ a, x = some a ∧ f a = some r := by
  cases x with
  | none => cases h
  | some a => exact ⟨a, rfl, h⟩
theorem ba_bn2_some {α β γ : Type} {x : Option (α × β)} {f : α → β → Option γ} {r : γ} (h : ba_bn2 x f = some r) : ∃ a b, x = some (a, b) ∧ f a b = some r := by
  cases x with
  | none => cases h
  | some a => exact ⟨a.1, a.2, rfl, h⟩
theorem ba_loop {A O : Type} {F : (A → Option O) → A → Option O} {o : O} {P : A → Prop} (h : ∀ k, (∀ b, k b = some o → P b) → ∀ a, F k a = some o → P a) : ∀ n a, ba_fix F n a = some o → P a
  | 0, a, e => by cases e
  | n + 1, a, e => h (ba_fix F n) (fun b hb => ba_loop h n b hb) a e
def ba_bool (v : Int32) : Bool := decide (v = 0) || decide (v = 1)
theorem ba_boolY {v : Int32} (h : ba_bool v = true) : v = 0 ∨ v = 1 := by
  unfold ba_bool at h
  simpa using h
theorem ba_y0 : (0 : Int32) = 0 ∨ (0 : Int32) = 1 := Or.inl rfl
theorem ba_y1 : (1 : Int32) = 0 ∨ (1 : Int32) = 1 := Or.inr rfl
def ba_irm (x y : Int32) : Int32 := x - x / y * y
def ba_lrm (x y : Int64) : Int64 := x - x / y * y
def ba_fishl (x y : Int32) : Int32 := x <<< (y &&& 31)
def ba_fishr (x y : Int32) : Int32 := x >>> (y &&& 31)
def ba_fiushr (x y : Int32) : Int32 := (x.toUInt32 >>> (y.toUInt32 &&& Int32.toUInt32 31)).toInt32
def ba_flshl (x : Int64) (y : Int32) : Int64 := x <<< (y.toInt64 &&& 63)
def ba_i8 (x : Int32) : Int32 := x.toInt8.toInt32
def ba_i16 (x : Int32) : Int32 := x.toInt16.toInt32
def ba_max (x y : Int32) : Int32 := if x < y then y else x
def ba_min (x y : Int32) : Int32 := if y < x then y else x
def ba_cok (sp dp n : Int32) (n0 n1 : Nat) : Bool := decide (0 ≤ sp) && decide (0 ≤ dp) && decide (0 ≤ n) && decide (sp.toNatClampNeg + n.toNatClampNeg ≤ n0) && decide (dp.toNatClampNeg + n.toNatClampNeg ≤ n1)
def ba_tv (l : List Int32) (i : Int32) : Int32 := l.getD i.toNatClampNeg 0
/-! ===== a walk's context ===== -/
abbrev ba_X : Type := Program × Launch × Env × Room × State × MethodId × Array Value × List Frame × Method × Code × (State → Prop)
def ba_tb : List Cond := lw_tbl.filter goodWord
def ba_SC (T : ba_T) (w : ba_W) (s : State) (H : Heap) : Prop := ∀ i q, T.2.2.2.2.1[i]? = some q → va_Z q.1 q.2.1 "[I" (.ref (w.2.2.2 i)) (ba_A T w) s H ∧ va_T .int (w.2.2.2 i) q.2.2.length (fun j => .int (q.2.2.getD j 0)) (ba_A T w) s H
def ba_NW (T : ba_T) (s : State) : Prop := ∀ c ∈ T.2.2.2.2.2, (∃ a i x h, c = Cond.methodLinkNest a i x h) ∧ va_Nw c s
def ba_G (T : ba_T) (w : ba_W) (nL : Nat) (X : ba_X) (σ : ba_St) (pc : Nat) (lv : List (Nat × Value)) (st : List Value) : Prop := match X with
  | (p, l, e, R, s, m, args, below, meth, c, Q) => ∀ (H : Heap) (locs : List Loc) (ls : Array Slot), va_P w.2.2.1 T.2.2.1 (ba_ws T w σ) H → va_S (ba_A T w) s.heap H locs → lv_has ls nL lv → W p l e R s m args below meth c H locs 0 0 Q (F0 m pc ls st)
def ba_V (T : ba_T) (w : ba_W) (nL : Nat) (X : ba_X) (cc : ByteArray) (own : String) (rm : Room) : Prop := match X with
  | (p, l, e, R, s, m, args, below, meth, c, Q) => ba_inj T w ∧ p.tables.exec = Jvm.exec ∧ c.code = cc ∧ c.maxLocals = nL ∧ s.vm.findClass own = some m.cls ∧ (∀ w ∈ ba_tb, w.before args s = true) ∧ va_K w.2.2.1 T.2.2.1 (ba_tys T w) s ∧ ba_SC T w s s.heap ∧ ba_NW T s ∧ R = rm
def ba_Sh (T : ba_T) (k : Nat) (x : ba_Shp) : Prop := k < T.2.1 ∧ T.1 k = x
/-- a field by its link -/
def ba_FL (T : ba_T) (own : String) (idx ci j : Nat) (ty : FieldType) (fin : Bool) : Prop := ∃ (C : String) (F : u_T) (N : Nat) (ty0 : Nat → FieldType), T.2.2.1[ci]? = some (C, F, N) ∧ j < N ∧ (∀ w ∈ u_ws C F N, w ∈ ba_tb) ∧ (∀ k, k < N → parseFieldDescriptor (F k).2.2.1 = some (ty0 k)) ∧ (∀ a, a < N → ∀ b, b < N → a ≠ b → (F a).2.1 ≠ (F b).2.1) ∧ Cond.fieldLink own idx (F j).1 (F j).2.1 (F j).2.2.1 ∈ ba_tb ∧ (F j).2.2.2 = fin ∧ ty0 j = ty
theorem ba_V.inj {T : ba_T} {w : ba_W} {nL : Nat} {X : ba_X} {cc : ByteArray} {own : String} {rm : Room} (V : ba_V T w nL X cc own rm) : ba_inj T w := by
  obtain ⟨p, l, e, R, s, m, args, below, meth, c, Q⟩ := X
  exact V.1
/-! ===== contracts: the answer and the store behind a method ===== -/
def ba_Pre (T : ba_T) (w : ba_W) (σ : ba_St) (U : State) : Prop := va_P w.2.2.1 T.2.2.1 (ba_ws T w σ) U.heap ∧ va_K w.2.2.1 T.2.2.1 (ba_tys T w) U ∧ ba_SC T w U U.heap ∧ ba_NW T U
def ba_Pst (T : ba_T) (w : ba_W) (u : ba_St) (t : State) : Prop := va_P w.2.2.1 T.2.2.1 (ba_ws T w u) t.heap
def ba_CI (T : ba_T) (w : ba_W) (l : Launch) (y : MethodName) (bytes : ByteArray) (maxL : Nat) (ret : Option FieldType) (rm : Room) (av : List Value) (σ : ba_St) (r : Int32 × ba_St) : Prop :=
  Met l y (.code y bytes maxL ret :: ba_tb) rm (va_Pc av (ba_Pre T w σ)) (va_Qi (fun v u => (v, u) = r) (ba_Pst T w) (ba_A T w)) 0 0 (ba_A T w)
def ba_CL (T : ba_T) (w : ba_W) (l : Launch) (y : MethodName) (bytes : ByteArray) (maxL : Nat) (ret : Option FieldType) (rm : Room) (av : List Value) (σ : ba_St) (r : Int64 × ba_St) : Prop :=
  Met l y (.code y bytes maxL ret :: ba_tb) rm (va_Pc av (ba_Pre T w σ)) (va_Ql (fun v u => (v, u) = r) (ba_Pst T w) (ba_A T w)) 0 0 (ba_A T w)
def ba_CV (T : ba_T) (w : ba_W) (l : Launch) (y : MethodName) (bytes : ByteArray) (maxL : Nat) (ret : Option FieldType) (rm : Room) (av : List Value) (σ : ba_St) (r : ba_St) : Prop :=
  Met l y (.code y bytes maxL ret :: ba_tb) rm (va_Pc av (ba_Pre T w σ)) (va_Qv (fun u => u = r) (ba_Pst T w) (ba_A T w)) 0 0 (ba_A T w)
theorem ba_blind {T : ba_T} {w : ba_W} {σ : ba_St} {av : List Value} : FrameBlind (va_Pc av (ba_Pre T w σ)) := by
  intro a U g mk q
  obtain ⟨q0, qP, qK, qS, qN⟩ := q
  have hv : U.vm.Alike (U.calling g mk a).vm := Vm.Alike.refl U.vm
  refine ⟨q0, qP, va_K.moved hv qK, fun i q hq => ⟨(qS i q hq).1.moved hv, (qS i q hq).2.moved hv⟩, fun c hc => ?_⟩
  obtain ⟨h0, hn⟩ := qN c hc
  obtain ⟨a, i, x, hh, rfl⟩ := h0
  exact ⟨⟨a, i, x, hh, rfl⟩, va_Nw.same rfl (u := U) rfl hn⟩
theorem ba_pre {T : ba_T} {w : ba_W} {σ : ba_St} {s U : State} {H : Heap} {locs : List Loc} (hP : va_P w.2.2.1 T.2.2.1 (ba_ws T w σ) H) (hS : va_S (ba_A T w) s.heap H locs) (hK : va_K w.2.2.1 T.2.2.1 (ba_tys T w) s) (hSC : ba_SC T w s s.heap) (hNW : ba_NW T s) (hU : U.heap = H) (hW : s.WarmedH U.vm) : ba_Pre T w σ U := by
  refine ⟨by rw [hU]; exact hP, va_K.moved hW.alike hK, fun i q hq => ?_, fun c hc => ?_⟩
  · rw [hU]
    exact ⟨((hSC i q hq).1.kept hS.2.1).moved hW.alike, ((hSC i q hq).2.kept hS.2.1).moved hW.alike⟩
  · obtain ⟨h0, hn⟩ := hNW c hc
    obtain ⟨a, i, x, hh, rfl⟩ := h0
    exact ⟨⟨a, i, x, hh, rfl⟩, va_Nw.warmM hW hn⟩
theorem ba_good {big : List Cond} {y : MethodName} {bytes : ByteArray} {maxL : Nat} {ret : Option FieldType} (hb : ∀ w ∈ ba_tb, w ∈ big) (hc : Cond.code y bytes maxL ret ∈ ba_tb) : GoodIn big (.code y bytes maxL ret :: ba_tb) := by
  have h1 : ∀ w ∈ ba_tb, w ∈ big ∧ ((w.onTables && w.keeps) = true ∨ ∃ ty, w = .arrayClass ty) := by
    intro w hw
    refine ⟨hb w hw, good_of_word ?_⟩
    unfold ba_tb at hw
    exact (List.mem_filter.mp hw).2
  intro w hw
  rcases List.mem_cons.mp hw with rfl | hw
  · exact h1 _ hc
  · exact h1 _ hw
/-- what a call of a method needs of the words -/
def ba_MC (own : String) (idx n : Nat) (y : MethodName) (bytes : ByteArray) (maxL : Nat) (ret : Option FieldType) : Prop := Cond.code y bytes maxL ret ∈ ba_tb ∧ Cond.initialized y.cls ∈ ba_tb ∧ Cond.methodLink own idx y ∈ ba_tb ∧ (y.cls ≠ "java/lang/invoke/MethodHandle" ∧ y.cls ≠ "java/lang/invoke/VarHandle" ∧ (parseMethodDescriptor y.desc).map (fun d => d.parameters.length) = some n)
def ba_MV (T : ba_T) (own : String) (idx n ci : Nat) (y : MethodName) (bytes : ByteArray) (maxL : Nat) (ret : Option FieldType) : Prop := ba_MC own idx n y bytes maxL ret ∧ Cond.instanceMethod y ∈ ba_tb ∧ Cond.selects y.cls y y ∈ ba_tb ∧ ∃ F N, T.2.2.1[ci]? = some (y.cls, F, N)
def ba_MS (own : String) (idx n : Nat) (y : MethodName) (bytes : ByteArray) (maxL : Nat) (ret : Option FieldType) : Prop := ba_MC own idx n y bytes maxL ret ∧ Cond.static y ∈ ba_tb
def ba_MN (T : ba_T) (own : String) (idx n : Nat) (y : MethodName) (bytes : ByteArray) (maxL : Nat) (ret : Option FieldType) (host : String) : Prop := (Cond.code y bytes maxL ret ∈ ba_tb ∧ Cond.initialized y.cls ∈ ba_tb ∧ (y.cls ≠ "java/lang/invoke/MethodHandle" ∧ y.cls ≠ "java/lang/invoke/VarHandle" ∧ (parseMethodDescriptor y.desc).map (fun d => d.parameters.length) = some n)) ∧ Cond.static y ∈ ba_tb ∧ Cond.methodLinkNest own idx y host ∈ T.2.2.2.2.2
section BA
variable {T : ba_T} {w : ba_W} {nL : Nat} {X : ba_X} {cc : ByteArray} {own : String} {rm : Room} {σ : ba_St} {pc : Nat} {lv : List (Nat × Value)} {st : List Value}
theorem ba_sub {lv' : List (Nat × Value)} (ks : List Nat) (h : lv_pick lv ks = lv') (g : ba_G T w nL X σ pc lv' st) : ba_G T w nL X σ pc lv st := by
  obtain ⟨p, l, e, R, s, m, args, below, meth, c, Q⟩ := X
  intro H locs ls hP hS hl
  exact g H locs ls hP hS (lv_sub hl ks h)
theorem ba_iconst {n : Int} {v : Int32} (V : ba_V T w nL X cc own rm) (d : decode cc pc = .ok (.iconst n, 1)) (hv : Int32.ofInt n = v) (g : ba_G T w nL X σ (pc + 1) lv (.int v :: st)) : ba_G T w nL X σ pc lv st := by
  obtain ⟨p, l, e, R, s, m, args, below, meth, c, Q⟩ := X
  obtain ⟨hj, hx, hb, hml, hown, hts, hK, hSC, hNW, hR⟩ := V
  intro H locs ls hP hS hl
  exact lv_iconst hx hb d hv (g H locs ls hP hS hl)

theorem ba_bipush {n : Int} {v : Int32} (V : ba_V T w nL X cc own rm) (d : decode cc pc = .ok (.bipush n, 2)) (hv : (Int8.ofInt n).toInt32 = v) (g : ba_G T w nL X σ (pc + 2) lv (.int v :: st)) : ba_G T w nL X σ pc lv st := by
  obtain ⟨p, l, e, R, s, m, args, below, meth, c, Q⟩ := X
  obtain ⟨hj, hx, hb, hml, hown, hts, hK, hSC, hNW, hR⟩ := V
  intro H locs ls hP hS hl
  exact lv_bipush hx hb d hv (g H locs ls hP hS hl)

theorem ba_sipush {n : Int} {v : Int32} (V : ba_V T w nL X cc own rm) (d : decode cc pc = .ok (.sipush n, 3)) (hv : (Int16.ofInt n).toInt32 = v) (g : ba_G T w nL X σ (pc + 3) lv (.int v :: st)) : ba_G T w nL X σ pc lv st := by
  obtain ⟨p, l, e, R, s, m, args, below, meth, c, Q⟩ := X
  obtain ⟨hj, hx, hb, hml, hown, hts, hK, hSC, hNW, hR⟩ := V
  intro H locs ls hP hS hl
  exact lv_sipush hx hb d hv (g H locs ls hP hS hl)

theorem ba_lconst {n : Fin 2} {v : Int64} (V : ba_V T w nL X cc own rm) (d : decode cc pc = .ok (.lconst n, 1)) (hv : Int64.ofNat (n : Nat) = v) (g : ba_G T w nL X σ (pc + 1) lv (.long v :: st)) : ba_G T w nL X σ pc lv st := by
  obtain ⟨p, l, e, R, s, m, args, below, meth, c, Q⟩ := X
  obtain ⟨hj, hx, hb, hml, hown, hts, hK, hSC, hNW, hR⟩ := V
  intro H locs ls hP hS hl
  exact lv_lconst hx hb d hv (g H locs ls hP hS hl)

theorem ba_ldc {i : Nat} {v : Int32} (V : ba_V T w nL X cc own rm) (d : decode cc pc = .ok (.ldc i, 2)) (hw : Cond.constant own i v ∈ ba_tb) (g : ba_G T w nL X σ (pc + 2) lv (.int v :: st)) : ba_G T w nL X σ pc lv st := by
  obtain ⟨p, l, e, R, s, m, args, below, meth, c, Q⟩ := X
  obtain ⟨hj, hx, hb, hml, hown, hts, hK, hSC, hNW, hR⟩ := V
  intro H locs ls hP hS hl
  exact lv_ldc hx hb hown (hts _ hw) d (g H locs ls hP hS hl)

theorem ba_ldc_w {i : Nat} {v : Int32} (V : ba_V T w nL X cc own rm) (d : decode cc pc = .ok (.ldc_w i, 3)) (hw : Cond.constant own i v ∈ ba_tb) (g : ba_G T w nL X σ (pc + 3) lv (.int v :: st)) : ba_G T w nL X σ pc lv st := by
  obtain ⟨p, l, e, R, s, m, args, below, meth, c, Q⟩ := X
  obtain ⟨hj, hx, hb, hml, hown, hts, hK, hSC, hNW, hR⟩ := V
  intro H locs ls hP hS hl
  exact lv_ldcw hx hb hown (hts _ hw) d (g H locs ls hP hS hl)

theorem ba_ldc2 {i : Nat} {v : Int64} (V : ba_V T w nL X cc own rm) (d : decode cc pc = .ok (.ldc2_w i, 3)) (hw : Cond.constantLong own i v ∈ ba_tb) (g : ba_G T w nL X σ (pc + 3) lv (.long v :: st)) : ba_G T w nL X σ pc lv st := by
  obtain ⟨p, l, e, R, s, m, args, below, meth, c, Q⟩ := X
  obtain ⟨hj, hx, hb, hml, hown, hts, hK, hSC, hNW, hR⟩ := V
  intro H locs ls hP hS hl
  exact lv_ldc2 hx hb hown (hts _ hw) d (g H locs ls hP hS hl)

theorem ba_iload_n {i : Fin 4} {x : Int32} (V : ba_V T w nL X cc own rm) (d : decode cc pc = .ok (.iload_n i, 1)) (k : Nat) (hk : lv[k]? = some ((i : Nat), .int x)) (g : ba_G T w nL X σ (pc + 1) lv (.int x :: st)) : ba_G T w nL X σ pc lv st := by
  obtain ⟨p, l, e, R, s, m, args, below, meth, c, Q⟩ := X
  obtain ⟨hj, hx, hb, hml, hown, hts, hK, hSC, hNW, hR⟩ := V
  intro H locs ls hP hS hl
  exact lv_iload_n hx hb d rfl (lv_at hl k hk) (g H locs ls hP hS hl)

theorem ba_iload {i : Nat} {x : Int32} (V : ba_V T w nL X cc own rm) (d : decode cc pc = .ok (.iload i, 2)) (k : Nat) (hk : lv[k]? = some (i, .int x)) (g : ba_G T w nL X σ (pc + 2) lv (.int x :: st)) : ba_G T w nL X σ pc lv st := by
  obtain ⟨p, l, e, R, s, m, args, below, meth, c, Q⟩ := X
  obtain ⟨hj, hx, hb, hml, hown, hts, hK, hSC, hNW, hR⟩ := V
  intro H locs ls hP hS hl
  exact lv_iload hx hb d (lv_at hl k hk) (g H locs ls hP hS hl)

theorem ba_lload_n {i : Fin 4} {x : Int64} (V : ba_V T w nL X cc own rm) (d : decode cc pc = .ok (.lload_n i, 1)) (k : Nat) (hk : lv[k]? = some ((i : Nat), .long x)) (g : ba_G T w nL X σ (pc + 1) lv (.long x :: st)) : ba_G T w nL X σ pc lv st := by
  obtain ⟨p, l, e, R, s, m, args, below, meth, c, Q⟩ := X
  obtain ⟨hj, hx, hb, hml, hown, hts, hK, hSC, hNW, hR⟩ := V
  intro H locs ls hP hS hl
  exact lv_lload_n hx hb d rfl (lv_at hl k hk) (g H locs ls hP hS hl)

theorem ba_lload {i : Nat} {x : Int64} (V : ba_V T w nL X cc own rm) (d : decode cc pc = .ok (.lload i, 2)) (k : Nat) (hk : lv[k]? = some (i, .long x)) (g : ba_G T w nL X σ (pc + 2) lv (.long x :: st)) : ba_G T w nL X σ pc lv st := by
  obtain ⟨p, l, e, R, s, m, args, below, meth, c, Q⟩ := X
  obtain ⟨hj, hx, hb, hml, hown, hts, hK, hSC, hNW, hR⟩ := V
  intro H locs ls hP hS hl
  exact lv_lload hx hb d (lv_at hl k hk) (g H locs ls hP hS hl)

theorem ba_aload_n {i : Fin 4} {x : Nat} (V : ba_V T w nL X cc own rm) (d : decode cc pc = .ok (.aload_n i, 1)) (k : Nat) (hk : lv[k]? = some ((i : Nat), .ref x)) (g : ba_G T w nL X σ (pc + 1) lv (.ref x :: st)) : ba_G T w nL X σ pc lv st := by
  obtain ⟨p, l, e, R, s, m, args, below, meth, c, Q⟩ := X
  obtain ⟨hj, hx, hb, hml, hown, hts, hK, hSC, hNW, hR⟩ := V
  intro H locs ls hP hS hl
  exact lv_aload_n hx hb d rfl (lv_at hl k hk) (g H locs ls hP hS hl)

theorem ba_aload {i : Nat} {x : Nat} (V : ba_V T w nL X cc own rm) (d : decode cc pc = .ok (.aload i, 2)) (k : Nat) (hk : lv[k]? = some (i, .ref x)) (g : ba_G T w nL X σ (pc + 2) lv (.ref x :: st)) : ba_G T w nL X σ pc lv st := by
  obtain ⟨p, l, e, R, s, m, args, below, meth, c, Q⟩ := X
  obtain ⟨hj, hx, hb, hml, hown, hts, hK, hSC, hNW, hR⟩ := V
  intro H locs ls hP hS hl
  exact lv_aload hx hb d (lv_at hl k hk) (g H locs ls hP hS hl)

theorem ba_istore_n {i : Fin 4} {x : Int32} {lv' : List (Nat × Value)} (V : ba_V T w nL X cc own rm) (d : decode cc pc = .ok (.istore_n i, 1)) (hn : (i : Nat) < nL) (hl' : ((i : Nat), Value.int x) :: lv.filter (fun q => !(q.1 == (i : Nat)) && !(q.1 + 1 == (i : Nat) && q.2.category == 2)) = lv') (g : ba_G T w nL X σ (pc + 1) lv' st) : ba_G T w nL X σ pc lv (.int x :: st) := by
  obtain ⟨p, l, e, R, s, m, args, below, meth, c, Q⟩ := X
  obtain ⟨hj, hx, hb, hml, hown, hts, hK, hSC, hNW, hR⟩ := V
  intro H locs ls hP hS hl
  exact lv_istore_n hx hb d rfl hl hn hl' (fun ls' h' => g H locs ls' hP hS h')

theorem ba_istore {i : Nat} {x : Int32} {lv' : List (Nat × Value)} (V : ba_V T w nL X cc own rm) (d : decode cc pc = .ok (.istore i, 2)) (hn : (i : Nat) < nL) (hl' : ((i : Nat), Value.int x) :: lv.filter (fun q => !(q.1 == (i : Nat)) && !(q.1 + 1 == (i : Nat) && q.2.category == 2)) = lv') (g : ba_G T w nL X σ (pc + 2) lv' st) : ba_G T w nL X σ pc lv (.int x :: st) := by
  obtain ⟨p, l, e, R, s, m, args, below, meth, c, Q⟩ := X
  obtain ⟨hj, hx, hb, hml, hown, hts, hK, hSC, hNW, hR⟩ := V
  intro H locs ls hP hS hl
  exact lv_istore hx hb d hl hn hl' (fun ls' h' => g H locs ls' hP hS h')

theorem ba_lstore_n {i : Fin 4} {x : Int64} {lv' : List (Nat × Value)} (V : ba_V T w nL X cc own rm) (d : decode cc pc = .ok (.lstore_n i, 1)) (hn : (i : Nat) + 1 < nL) (hl' : ((i : Nat), Value.long x) :: lv.filter (fun q => !(q.1 == (i : Nat)) && (!(q.1 == (i : Nat) + 1) && !(q.1 + 1 == (i : Nat) && q.2.category == 2))) = lv') (g : ba_G T w nL X σ (pc + 1) lv' st) : ba_G T w nL X σ pc lv (.long x :: st) := by
  obtain ⟨p, l, e, R, s, m, args, below, meth, c, Q⟩ := X
  obtain ⟨hj, hx, hb, hml, hown, hts, hK, hSC, hNW, hR⟩ := V
  intro H locs ls hP hS hl
  exact lv_lstore_n hx hb d rfl hl hn hl' (fun ls' h' => g H locs ls' hP hS h')

theorem ba_lstore {i : Nat} {x : Int64} {lv' : List (Nat × Value)} (V : ba_V T w nL X cc own rm) (d : decode cc pc = .ok (.lstore i, 2)) (hn : (i : Nat) + 1 < nL) (hl' : ((i : Nat), Value.long x) :: lv.filter (fun q => !(q.1 == (i : Nat)) && (!(q.1 == (i : Nat) + 1) && !(q.1 + 1 == (i : Nat) && q.2.category == 2))) = lv') (g : ba_G T w nL X σ (pc + 2) lv' st) : ba_G T w nL X σ pc lv (.long x :: st) := by
  obtain ⟨p, l, e, R, s, m, args, below, meth, c, Q⟩ := X
  obtain ⟨hj, hx, hb, hml, hown, hts, hK, hSC, hNW, hR⟩ := V
  intro H locs ls hP hS hl
  exact lv_lstore hx hb d hl hn hl' (fun ls' h' => g H locs ls' hP hS h')

theorem ba_astore_n {i : Fin 4} {x : Nat} {lv' : List (Nat × Value)} (V : ba_V T w nL X cc own rm) (d : decode cc pc = .ok (.astore_n i, 1)) (hn : (i : Nat) < nL) (hl' : ((i : Nat), Value.ref x) :: lv.filter (fun q => !(q.1 == (i : Nat)) && !(q.1 + 1 == (i : Nat) && q.2.category == 2)) = lv') (g : ba_G T w nL X σ (pc + 1) lv' st) : ba_G T w nL X σ pc lv (.ref x :: st) := by
  obtain ⟨p, l, e, R, s, m, args, below, meth, c, Q⟩ := X
  obtain ⟨hj, hx, hb, hml, hown, hts, hK, hSC, hNW, hR⟩ := V
  intro H locs ls hP hS hl
  exact lv_astore_n hx hb d rfl hl hn hl' (fun ls' h' => g H locs ls' hP hS h')

theorem ba_astore {i : Nat} {x : Nat} {lv' : List (Nat × Value)} (V : ba_V T w nL X cc own rm) (d : decode cc pc = .ok (.astore i, 2)) (hn : (i : Nat) < nL) (hl' : ((i : Nat), Value.ref x) :: lv.filter (fun q => !(q.1 == (i : Nat)) && !(q.1 + 1 == (i : Nat) && q.2.category == 2)) = lv') (g : ba_G T w nL X σ (pc + 2) lv' st) : ba_G T w nL X σ pc lv (.ref x :: st) := by
  obtain ⟨p, l, e, R, s, m, args, below, meth, c, Q⟩ := X
  obtain ⟨hj, hx, hb, hml, hown, hts, hK, hSC, hNW, hR⟩ := V
  intro H locs ls hP hS hl
  exact lv_astore hx hb d hl hn hl' (fun ls' h' => g H locs ls' hP hS h')

theorem ba_letI {α : Type} {v : Int32} {f : Int32 → Option α} {o : α} (h : ba_lt v f = some o) (g : ∀ x, f x = some o → ba_G T w nL X σ pc lv (.int x :: st)) : ba_G T w nL X σ pc lv (.int v :: st) := g v h
theorem ba_letL {α : Type} {v : Int64} {f : Int64 → Option α} {o : α} (h : ba_lt v f = some o) (g : ∀ x, f x = some o → ba_G T w nL X σ pc lv (.long x :: st)) : ba_G T w nL X σ pc lv (.long v :: st) := g v h
theorem ba_guard {α : Type} {b : Bool} {f : Option α} {o : α} (h : ba_grd b f = some o) (g : b = true → f = some o → ba_G T w nL X σ pc lv st) : ba_G T w nL X σ pc lv st := g (ba_grd_some h).1 (ba_grd_some h).2
theorem ba_case {α : Type} {P : Prop} {D : Decidable P} {a b : Option α} {o : α} {G : Prop} (h : (@ite _ P D a b) = some o) (g1 : P → a = some o → G) (g2 : ¬ P → b = some o → G) : G := by
  by_cases hp : P
  · exact g1 hp (by rw [if_pos hp] at h; exact h)
  · exact g2 hp (by rw [if_neg hp] at h; exact h)

theorem ba_iinc {i : Nat} {n : Int} {x z : Int32} {α : Type} {f : Int32 → Option α} {o : α} (V : ba_V T w nL X cc own rm) (d : decode cc pc = .ok (.iinc i n, 3)) (k : Nat) (hk : lv[k]? = some (i, .int x)) (hv : Int32.ofInt n = z) (hn : i < nL) (h : ba_lt (x + z) f = some o) (g : ∀ y, f y = some o → ∃ lv', (i, Value.int y) :: lv.filter (fun q => !(q.1 == i) && !(q.1 + 1 == i && q.2.category == 2)) = lv' ∧ ba_G T w nL X σ (pc + 3) lv' st) : ba_G T w nL X σ pc lv st := by
  obtain ⟨p, l, e, R, s, m, args, below, meth, c, Q⟩ := X
  obtain ⟨hj, hx, hb, hml, hown, hts, hK, hSC, hNW, hR⟩ := V
  intro H locs ls hP hS hl
  obtain ⟨lv', e1, g⟩ := g (x + z) h
  exact lv_iinc hx hb d hl hk (by rw [hv]) hn e1 (fun ls' h' => g H locs ls' hP hS h')

theorem ba_iadd {x y : Int32} (V : ba_V T w nL X cc own rm) (d : decode cc pc = .ok (.iadd, 1)) (g : ba_G T w nL X σ (pc + 1) lv (.int (x + y) :: st)) : ba_G T w nL X σ pc lv (.int y :: .int x :: st) := by
  obtain ⟨p, l, e, R, s, m, args, below, meth, c, Q⟩ := X
  obtain ⟨hj, hx, hb, hml, hown, hts, hK, hSC, hNW, hR⟩ := V
  intro H locs ls hP hS hl
  exact lv_iadd hx hb d (g H locs ls hP hS hl)

theorem ba_ladd {x y : Int64} (V : ba_V T w nL X cc own rm) (d : decode cc pc = .ok (.ladd, 1)) (g : ba_G T w nL X σ (pc + 1) lv (.long (x + y) :: st)) : ba_G T w nL X σ pc lv (.long y :: .long x :: st) := by
  obtain ⟨p, l, e, R, s, m, args, below, meth, c, Q⟩ := X
  obtain ⟨hj, hx, hb, hml, hown, hts, hK, hSC, hNW, hR⟩ := V
  intro H locs ls hP hS hl
  exact lv_ladd hx hb d (g H locs ls hP hS hl)

theorem ba_isub {x y : Int32} (V : ba_V T w nL X cc own rm) (d : decode cc pc = .ok (.isub, 1)) (g : ba_G T w nL X σ (pc + 1) lv (.int (x - y) :: st)) : ba_G T w nL X σ pc lv (.int y :: .int x :: st) := by
  obtain ⟨p, l, e, R, s, m, args, below, meth, c, Q⟩ := X
  obtain ⟨hj, hx, hb, hml, hown, hts, hK, hSC, hNW, hR⟩ := V
  intro H locs ls hP hS hl
  exact lv_isub hx hb d (g H locs ls hP hS hl)

theorem ba_lsub {x y : Int64} (V : ba_V T w nL X cc own rm) (d : decode cc pc = .ok (.lsub, 1)) (g : ba_G T w nL X σ (pc + 1) lv (.long (x - y) :: st)) : ba_G T w nL X σ pc lv (.long y :: .long x :: st) := by
  obtain ⟨p, l, e, R, s, m, args, below, meth, c, Q⟩ := X
  obtain ⟨hj, hx, hb, hml, hown, hts, hK, hSC, hNW, hR⟩ := V
  intro H locs ls hP hS hl
  exact lv_lsub hx hb d (g H locs ls hP hS hl)

theorem ba_imul {x y : Int32} (V : ba_V T w nL X cc own rm) (d : decode cc pc = .ok (.imul, 1)) (g : ba_G T w nL X σ (pc + 1) lv (.int (x * y) :: st)) : ba_G T w nL X σ pc lv (.int y :: .int x :: st) := by
  obtain ⟨p, l, e, R, s, m, args, below, meth, c, Q⟩ := X
  obtain ⟨hj, hx, hb, hml, hown, hts, hK, hSC, hNW, hR⟩ := V
  intro H locs ls hP hS hl
  exact lv_imul hx hb d (g H locs ls hP hS hl)

theorem ba_lmul {x y : Int64} (V : ba_V T w nL X cc own rm) (d : decode cc pc = .ok (.lmul, 1)) (g : ba_G T w nL X σ (pc + 1) lv (.long (x * y) :: st)) : ba_G T w nL X σ pc lv (.long y :: .long x :: st) := by
  obtain ⟨p, l, e, R, s, m, args, below, meth, c, Q⟩ := X
  obtain ⟨hj, hx, hb, hml, hown, hts, hK, hSC, hNW, hR⟩ := V
  intro H locs ls hP hS hl
  exact lv_lmul hx hb d (g H locs ls hP hS hl)

theorem ba_iand {x y : Int32} (V : ba_V T w nL X cc own rm) (d : decode cc pc = .ok (.iand, 1)) (g : ba_G T w nL X σ (pc + 1) lv (.int (x &&& y) :: st)) : ba_G T w nL X σ pc lv (.int y :: .int x :: st) := by
  obtain ⟨p, l, e, R, s, m, args, below, meth, c, Q⟩ := X
  obtain ⟨hj, hx, hb, hml, hown, hts, hK, hSC, hNW, hR⟩ := V
  intro H locs ls hP hS hl
  exact lv_iand hx hb d (g H locs ls hP hS hl)

theorem ba_land {x y : Int64} (V : ba_V T w nL X cc own rm) (d : decode cc pc = .ok (.land, 1)) (g : ba_G T w nL X σ (pc + 1) lv (.long (x &&& y) :: st)) : ba_G T w nL X σ pc lv (.long y :: .long x :: st) := by
  obtain ⟨p, l, e, R, s, m, args, below, meth, c, Q⟩ := X
  obtain ⟨hj, hx, hb, hml, hown, hts, hK, hSC, hNW, hR⟩ := V
  intro H locs ls hP hS hl
  exact lv_land hx hb d (g H locs ls hP hS hl)

theorem ba_ior {x y : Int32} (V : ba_V T w nL X cc own rm) (d : decode cc pc = .ok (.ior, 1)) (g : ba_G T w nL X σ (pc + 1) lv (.int (x ||| y) :: st)) : ba_G T w nL X σ pc lv (.int y :: .int x :: st) := by
  obtain ⟨p, l, e, R, s, m, args, below, meth, c, Q⟩ := X
  obtain ⟨hj, hx, hb, hml, hown, hts, hK, hSC, hNW, hR⟩ := V
  intro H locs ls hP hS hl
  exact lv_ior hx hb d (g H locs ls hP hS hl)

theorem ba_lor {x y : Int64} (V : ba_V T w nL X cc own rm) (d : decode cc pc = .ok (.lor, 1)) (g : ba_G T w nL X σ (pc + 1) lv (.long (x ||| y) :: st)) : ba_G T w nL X σ pc lv (.long y :: .long x :: st) := by
  obtain ⟨p, l, e, R, s, m, args, below, meth, c, Q⟩ := X
  obtain ⟨hj, hx, hb, hml, hown, hts, hK, hSC, hNW, hR⟩ := V
  intro H locs ls hP hS hl
  exact lv_lor hx hb d (g H locs ls hP hS hl)

theorem ba_ixor {x y : Int32} (V : ba_V T w nL X cc own rm) (d : decode cc pc = .ok (.ixor, 1)) (g : ba_G T w nL X σ (pc + 1) lv (.int (x ^^^ y) :: st)) : ba_G T w nL X σ pc lv (.int y :: .int x :: st) := by
  obtain ⟨p, l, e, R, s, m, args, below, meth, c, Q⟩ := X
  obtain ⟨hj, hx, hb, hml, hown, hts, hK, hSC, hNW, hR⟩ := V
  intro H locs ls hP hS hl
  exact lv_ixor hx hb d (g H locs ls hP hS hl)

theorem ba_lxor {x y : Int64} (V : ba_V T w nL X cc own rm) (d : decode cc pc = .ok (.lxor, 1)) (g : ba_G T w nL X σ (pc + 1) lv (.long (x ^^^ y) :: st)) : ba_G T w nL X σ pc lv (.long y :: .long x :: st) := by
  obtain ⟨p, l, e, R, s, m, args, below, meth, c, Q⟩ := X
  obtain ⟨hj, hx, hb, hml, hown, hts, hK, hSC, hNW, hR⟩ := V
  intro H locs ls hP hS hl
  exact lv_lxor hx hb d (g H locs ls hP hS hl)

theorem ba_ishl {x y : Int32} (V : ba_V T w nL X cc own rm) (d : decode cc pc = .ok (.ishl, 1)) (g : ba_G T w nL X σ (pc + 1) lv (.int (ba_fishl x y) :: st)) : ba_G T w nL X σ pc lv (.int y :: .int x :: st) := by
  obtain ⟨p, l, e, R, s, m, args, below, meth, c, Q⟩ := X
  obtain ⟨hj, hx, hb, hml, hown, hts, hK, hSC, hNW, hR⟩ := V
  intro H locs ls hP hS hl
  exact lv_ishl hx hb d (g H locs ls hP hS hl)

theorem ba_ishr {x y : Int32} (V : ba_V T w nL X cc own rm) (d : decode cc pc = .ok (.ishr, 1)) (g : ba_G T w nL X σ (pc + 1) lv (.int (ba_fishr x y) :: st)) : ba_G T w nL X σ pc lv (.int y :: .int x :: st) := by
  obtain ⟨p, l, e, R, s, m, args, below, meth, c, Q⟩ := X
  obtain ⟨hj, hx, hb, hml, hown, hts, hK, hSC, hNW, hR⟩ := V
  intro H locs ls hP hS hl
  exact lv_ishr hx hb d (g H locs ls hP hS hl)

theorem ba_iushr {x y : Int32} (V : ba_V T w nL X cc own rm) (d : decode cc pc = .ok (.iushr, 1)) (g : ba_G T w nL X σ (pc + 1) lv (.int (ba_fiushr x y) :: st)) : ba_G T w nL X σ pc lv (.int y :: .int x :: st) := by
  obtain ⟨p, l, e, R, s, m, args, below, meth, c, Q⟩ := X
  obtain ⟨hj, hx, hb, hml, hown, hts, hK, hSC, hNW, hR⟩ := V
  intro H locs ls hP hS hl
  exact lv_iushr hx hb d rfl (g H locs ls hP hS hl)

theorem ba_lshl {x : Int64} {y : Int32} (V : ba_V T w nL X cc own rm) (d : decode cc pc = .ok (.lshl, 1)) (g : ba_G T w nL X σ (pc + 1) lv (.long (ba_flshl x y) :: st)) : ba_G T w nL X σ pc lv (.int y :: .long x :: st) := by
  obtain ⟨p, l, e, R, s, m, args, below, meth, c, Q⟩ := X
  obtain ⟨hj, hx, hb, hml, hown, hts, hK, hSC, hNW, hR⟩ := V
  intro H locs ls hP hS hl
  exact lv_lshl hx hb d rfl (g H locs ls hP hS hl)

theorem ba_idiv {x y : Int32} (V : ba_V T w nL X cc own rm) (d : decode cc pc = .ok (.idiv, 1)) (hne : ¬ y = 0) (g : ba_G T w nL X σ (pc + 1) lv (.int (x / y) :: st)) : ba_G T w nL X σ pc lv (.int y :: .int x :: st) := by
  obtain ⟨p, l, e, R, s, m, args, below, meth, c, Q⟩ := X
  obtain ⟨hj, hx, hb, hml, hown, hts, hK, hSC, hNW, hR⟩ := V
  intro H locs ls hP hS hl
  exact lv_idiv hx hb d hne (g H locs ls hP hS hl)

theorem ba_irem {x y : Int32} (V : ba_V T w nL X cc own rm) (d : decode cc pc = .ok (.irem, 1)) (hne : ¬ y = 0) (g : ba_G T w nL X σ (pc + 1) lv (.int (ba_irm x y) :: st)) : ba_G T w nL X σ pc lv (.int y :: .int x :: st) := by
  obtain ⟨p, l, e, R, s, m, args, below, meth, c, Q⟩ := X
  obtain ⟨hj, hx, hb, hml, hown, hts, hK, hSC, hNW, hR⟩ := V
  intro H locs ls hP hS hl
  exact lv_irem hx hb d hne (g H locs ls hP hS hl)

theorem ba_idivG {x y : Int32} {α : Type} {f : Option α} {o : α} (V : ba_V T w nL X cc own rm) (d : decode cc pc = .ok (.idiv, 1)) (h : ba_grd (decide (¬ y = 0)) f = some o) (g : f = some o → ba_G T w nL X σ (pc + 1) lv (.int (x / y) :: st)) : ba_G T w nL X σ pc lv (.int y :: .int x :: st) :=
  ba_idiv V d (of_decide_eq_true (ba_grd_some h).1) (g (ba_grd_some h).2)

theorem ba_iremG {x y : Int32} {α : Type} {f : Option α} {o : α} (V : ba_V T w nL X cc own rm) (d : decode cc pc = .ok (.irem, 1)) (h : ba_grd (decide (¬ y = 0)) f = some o) (g : f = some o → ba_G T w nL X σ (pc + 1) lv (.int (ba_irm x y) :: st)) : ba_G T w nL X σ pc lv (.int y :: .int x :: st) :=
  ba_irem V d (of_decide_eq_true (ba_grd_some h).1) (g (ba_grd_some h).2)

theorem ba_ineg {x : Int32} (V : ba_V T w nL X cc own rm) (d : decode cc pc = .ok (.ineg, 1)) (g : ba_G T w nL X σ (pc + 1) lv (.int (-x) :: st)) : ba_G T w nL X σ pc lv (.int x :: st) := by
  obtain ⟨p, l, e, R, s, m, args, below, meth, c, Q⟩ := X
  obtain ⟨hj, hx, hb, hml, hown, hts, hK, hSC, hNW, hR⟩ := V
  intro H locs ls hP hS hl
  exact lv_ineg hx hb d (g H locs ls hP hS hl)

theorem ba_ldiv {x y : Int64} (V : ba_V T w nL X cc own rm) (d : decode cc pc = .ok (.ldiv, 1)) (hne : ¬ y = 0) (g : ba_G T w nL X σ (pc + 1) lv (.long (x / y) :: st)) : ba_G T w nL X σ pc lv (.long y :: .long x :: st) := by
  obtain ⟨p, l, e, R, s, m, args, below, meth, c, Q⟩ := X
  obtain ⟨hj, hx, hb, hml, hown, hts, hK, hSC, hNW, hR⟩ := V
  intro H locs ls hP hS hl
  exact lv_ldiv hx hb d hne (g H locs ls hP hS hl)

theorem ba_lrem {x y : Int64} (V : ba_V T w nL X cc own rm) (d : decode cc pc = .ok (.lrem, 1)) (hne : ¬ y = 0) (g : ba_G T w nL X σ (pc + 1) lv (.long (ba_lrm x y) :: st)) : ba_G T w nL X σ pc lv (.long y :: .long x :: st) := by
  obtain ⟨p, l, e, R, s, m, args, below, meth, c, Q⟩ := X
  obtain ⟨hj, hx, hb, hml, hown, hts, hK, hSC, hNW, hR⟩ := V
  intro H locs ls hP hS hl
  exact lv_lrem hx hb d hne (g H locs ls hP hS hl)

theorem ba_ldivG {x y : Int64} {α : Type} {f : Option α} {o : α} (V : ba_V T w nL X cc own rm) (d : decode cc pc = .ok (.ldiv, 1)) (h : ba_grd (decide (¬ y = 0)) f = some o) (g : f = some o → ba_G T w nL X σ (pc + 1) lv (.long (x / y) :: st)) : ba_G T w nL X σ pc lv (.long y :: .long x :: st) :=
  ba_ldiv V d (of_decide_eq_true (ba_grd_some h).1) (g (ba_grd_some h).2)

theorem ba_lremG {x y : Int64} {α : Type} {f : Option α} {o : α} (V : ba_V T w nL X cc own rm) (d : decode cc pc = .ok (.lrem, 1)) (h : ba_grd (decide (¬ y = 0)) f = some o) (g : f = some o → ba_G T w nL X σ (pc + 1) lv (.long (ba_lrm x y) :: st)) : ba_G T w nL X σ pc lv (.long y :: .long x :: st) :=
  ba_lrem V d (of_decide_eq_true (ba_grd_some h).1) (g (ba_grd_some h).2)

theorem ba_lneg {x : Int64} (V : ba_V T w nL X cc own rm) (d : decode cc pc = .ok (.lneg, 1)) (g : ba_G T w nL X σ (pc + 1) lv (.long (-x) :: st)) : ba_G T w nL X σ pc lv (.long x :: st) := by
  obtain ⟨p, l, e, R, s, m, args, below, meth, c, Q⟩ := X
  obtain ⟨hj, hx, hb, hml, hown, hts, hK, hSC, hNW, hR⟩ := V
  intro H locs ls hP hS hl
  exact lv_lneg hx hb d (g H locs ls hP hS hl)

theorem ba_i2l {x : Int32} (V : ba_V T w nL X cc own rm) (d : decode cc pc = .ok (.i2l, 1)) (g : ba_G T w nL X σ (pc + 1) lv (.long (Int32.toInt64 x) :: st)) : ba_G T w nL X σ pc lv (.int x :: st) := by
  obtain ⟨p, l, e, R, s, m, args, below, meth, c, Q⟩ := X
  obtain ⟨hj, hx, hb, hml, hown, hts, hK, hSC, hNW, hR⟩ := V
  intro H locs ls hP hS hl
  exact lv_i2l hx hb d rfl (g H locs ls hP hS hl)

theorem ba_i2b {x : Int32} (V : ba_V T w nL X cc own rm) (d : decode cc pc = .ok (.i2b, 1)) (g : ba_G T w nL X σ (pc + 1) lv (.int (ba_i8 x) :: st)) : ba_G T w nL X σ pc lv (.int x :: st) := by
  obtain ⟨p, l, e, R, s, m, args, below, meth, c, Q⟩ := X
  obtain ⟨hj, hx, hb, hml, hown, hts, hK, hSC, hNW, hR⟩ := V
  intro H locs ls hP hS hl
  exact lv_i2b hx hb d rfl (g H locs ls hP hS hl)

theorem ba_i2s {x : Int32} (V : ba_V T w nL X cc own rm) (d : decode cc pc = .ok (.i2s, 1)) (g : ba_G T w nL X σ (pc + 1) lv (.int (ba_i16 x) :: st)) : ba_G T w nL X σ pc lv (.int x :: st) := by
  obtain ⟨p, l, e, R, s, m, args, below, meth, c, Q⟩ := X
  obtain ⟨hj, hx, hb, hml, hown, hts, hK, hSC, hNW, hR⟩ := V
  intro H locs ls hP hS hl
  exact lv_i2s hx hb d rfl (g H locs ls hP hS hl)

theorem ba_dup {v : Value} (V : ba_V T w nL X cc own rm) (d : decode cc pc = .ok (.dup, 1)) (hc : v.category = 1) (g : ba_G T w nL X σ (pc + 1) lv (v :: v :: st)) : ba_G T w nL X σ pc lv (v :: st) := by
  obtain ⟨p, l, e, R, s, m, args, below, meth, c, Q⟩ := X
  obtain ⟨hj, hx, hb, hml, hown, hts, hK, hSC, hNW, hR⟩ := V
  intro H locs ls hP hS hl
  exact lv_dup hx hb d hc (g H locs ls hP hS hl)

theorem ba_dup2 {u v : Value} (V : ba_V T w nL X cc own rm) (d : decode cc pc = .ok (.dup2, 1)) (hc : u.category = 1) (hc2 : v.category = 1) (g : ba_G T w nL X σ (pc + 1) lv (u :: v :: u :: v :: st)) : ba_G T w nL X σ pc lv (u :: v :: st) := by
  obtain ⟨p, l, e, R, s, m, args, below, meth, c, Q⟩ := X
  obtain ⟨hj, hx, hb, hml, hown, hts, hK, hSC, hNW, hR⟩ := V
  intro H locs ls hP hS hl
  exact lv_dup2_11 hx hb d hc hc2 (g H locs ls hP hS hl)

theorem ba_pop {v : Value} (V : ba_V T w nL X cc own rm) (d : decode cc pc = .ok (.pop, 1)) (hc : v.category = 1) (g : ba_G T w nL X σ (pc + 1) lv st) : ba_G T w nL X σ pc lv (v :: st) := by
  obtain ⟨p, l, e, R, s, m, args, below, meth, c, Q⟩ := X
  obtain ⟨hj, hx, hb, hml, hown, hts, hK, hSC, hNW, hR⟩ := V
  intro H locs ls hP hS hl
  exact lv_pop hx hb d hc (g H locs ls hP hS hl)

theorem ba_if_eq {off : Int} {tgt : Nat} {α : Type} {fa fb : Option α} {o : α} {x : Int32} {D : Decidable (x = 0)} (V : ba_V T w nL X cc own rm) (d : decode cc pc = .ok (.ifCond .eq off, 3)) (ht : (pc : Int) + off = (tgt : Int)) (h : (@ite _ (x = 0) D fa fb) = some o) (g1 : fa = some o → ba_G T w nL X σ (tgt) lv st) (g2 : fb = some o → ba_G T w nL X σ (pc + 3) lv st) : ba_G T w nL X σ pc lv (.int x :: st) := by
  obtain ⟨p, l, e, R, s, m, args, below, meth, c, Q⟩ := X
  obtain ⟨hj, hx, hb, hml, hown, hts, hK, hSC, hNW, hR⟩ := V
  intro H locs ls hP hS hl
  by_cases hp : x = 0
  · rw [if_pos hp] at h
    exact lv_if_eq hx hb d ht (fun _ => g1 h H locs ls hP hS hl) (fun q => absurd hp q)
  · rw [if_neg hp] at h
    exact lv_if_eq hx hb d ht (fun q => absurd q hp) (fun _ => g2 h H locs ls hP hS hl)

theorem ba_icmp_eq {off : Int} {tgt : Nat} {α : Type} {fa fb : Option α} {o : α} {x y : Int32} {D : Decidable (x = y)} (V : ba_V T w nL X cc own rm) (d : decode cc pc = .ok (.if_icmp .eq off, 3)) (ht : (pc : Int) + off = (tgt : Int)) (h : (@ite _ (x = y) D fa fb) = some o) (g1 : fa = some o → ba_G T w nL X σ (tgt) lv st) (g2 : fb = some o → ba_G T w nL X σ (pc + 3) lv st) : ba_G T w nL X σ pc lv (.int y :: .int x :: st) := by
  obtain ⟨p, l, e, R, s, m, args, below, meth, c, Q⟩ := X
  obtain ⟨hj, hx, hb, hml, hown, hts, hK, hSC, hNW, hR⟩ := V
  intro H locs ls hP hS hl
  by_cases hp : x = y
  · rw [if_pos hp] at h
    exact lv_icmp_eq hx hb d ht (fun _ => g1 h H locs ls hP hS hl) (fun q => absurd hp q)
  · rw [if_neg hp] at h
    exact lv_icmp_eq hx hb d ht (fun q => absurd q hp) (fun _ => g2 h H locs ls hP hS hl)

theorem ba_if_ne {off : Int} {tgt : Nat} {α : Type} {fa fb : Option α} {o : α} {x : Int32} {D : Decidable (x = 0)} (V : ba_V T w nL X cc own rm) (d : decode cc pc = .ok (.ifCond .ne off, 3)) (ht : (pc : Int) + off = (tgt : Int)) (h : (@ite _ (x = 0) D fa fb) = some o) (g1 : fa = some o → ba_G T w nL X σ (pc + 3) lv st) (g2 : fb = some o → ba_G T w nL X σ (tgt) lv st) : ba_G T w nL X σ pc lv (.int x :: st) := by
  obtain ⟨p, l, e, R, s, m, args, below, meth, c, Q⟩ := X
  obtain ⟨hj, hx, hb, hml, hown, hts, hK, hSC, hNW, hR⟩ := V
  intro H locs ls hP hS hl
  by_cases hp : x = 0
  · rw [if_pos hp] at h
    exact lv_if_ne hx hb d ht (fun q => absurd hp q) (fun _ => g1 h H locs ls hP hS hl)
  · rw [if_neg hp] at h
    exact lv_if_ne hx hb d ht (fun _ => g2 h H locs ls hP hS hl) (fun q => absurd q hp)

theorem ba_icmp_ne {off : Int} {tgt : Nat} {α : Type} {fa fb : Option α} {o : α} {x y : Int32} {D : Decidable (x = y)} (V : ba_V T w nL X cc own rm) (d : decode cc pc = .ok (.if_icmp .ne off, 3)) (ht : (pc : Int) + off = (tgt : Int)) (h : (@ite _ (x = y) D fa fb) = some o) (g1 : fa = some o → ba_G T w nL X σ (pc + 3) lv st) (g2 : fb = some o → ba_G T w nL X σ (tgt) lv st) : ba_G T w nL X σ pc lv (.int y :: .int x :: st) := by
  obtain ⟨p, l, e, R, s, m, args, below, meth, c, Q⟩ := X
  obtain ⟨hj, hx, hb, hml, hown, hts, hK, hSC, hNW, hR⟩ := V
  intro H locs ls hP hS hl
  by_cases hp : x = y
  · rw [if_pos hp] at h
    exact lv_icmp_ne hx hb d ht (fun q => absurd hp q) (fun _ => g1 h H locs ls hP hS hl)
  · rw [if_neg hp] at h
    exact lv_icmp_ne hx hb d ht (fun _ => g2 h H locs ls hP hS hl) (fun q => absurd q hp)

theorem ba_if_lt {off : Int} {tgt : Nat} {α : Type} {fa fb : Option α} {o : α} {x : Int32} {D : Decidable (x < 0)} (V : ba_V T w nL X cc own rm) (d : decode cc pc = .ok (.ifCond .lt off, 3)) (ht : (pc : Int) + off = (tgt : Int)) (h : (@ite _ (x < 0) D fa fb) = some o) (g1 : fa = some o → ba_G T w nL X σ (tgt) lv st) (g2 : fb = some o → ba_G T w nL X σ (pc + 3) lv st) : ba_G T w nL X σ pc lv (.int x :: st) := by
  obtain ⟨p, l, e, R, s, m, args, below, meth, c, Q⟩ := X
  obtain ⟨hj, hx, hb, hml, hown, hts, hK, hSC, hNW, hR⟩ := V
  intro H locs ls hP hS hl
  by_cases hp : x < 0
  · rw [if_pos hp] at h
    exact lv_if_lt hx hb d ht (fun _ => g1 h H locs ls hP hS hl) (fun q => absurd hp q)
  · rw [if_neg hp] at h
    exact lv_if_lt hx hb d ht (fun q => absurd q hp) (fun _ => g2 h H locs ls hP hS hl)

theorem ba_icmp_lt {off : Int} {tgt : Nat} {α : Type} {fa fb : Option α} {o : α} {x y : Int32} {D : Decidable (x < y)} (V : ba_V T w nL X cc own rm) (d : decode cc pc = .ok (.if_icmp .lt off, 3)) (ht : (pc : Int) + off = (tgt : Int)) (h : (@ite _ (x < y) D fa fb) = some o) (g1 : fa = some o → ba_G T w nL X σ (tgt) lv st) (g2 : fb = some o → ba_G T w nL X σ (pc + 3) lv st) : ba_G T w nL X σ pc lv (.int y :: .int x :: st) := by
  obtain ⟨p, l, e, R, s, m, args, below, meth, c, Q⟩ := X
  obtain ⟨hj, hx, hb, hml, hown, hts, hK, hSC, hNW, hR⟩ := V
  intro H locs ls hP hS hl
  by_cases hp : x < y
  · rw [if_pos hp] at h
    exact lv_icmp_lt hx hb d ht (fun _ => g1 h H locs ls hP hS hl) (fun q => absurd hp q)
  · rw [if_neg hp] at h
    exact lv_icmp_lt hx hb d ht (fun q => absurd q hp) (fun _ => g2 h H locs ls hP hS hl)

theorem ba_if_ge {off : Int} {tgt : Nat} {α : Type} {fa fb : Option α} {o : α} {x : Int32} {D : Decidable (0 ≤ x)} (V : ba_V T w nL X cc own rm) (d : decode cc pc = .ok (.ifCond .ge off, 3)) (ht : (pc : Int) + off = (tgt : Int)) (h : (@ite _ (0 ≤ x) D fa fb) = some o) (g1 : fa = some o → ba_G T w nL X σ (tgt) lv st) (g2 : fb = some o → ba_G T w nL X σ (pc + 3) lv st) : ba_G T w nL X σ pc lv (.int x :: st) := by
  obtain ⟨p, l, e, R, s, m, args, below, meth, c, Q⟩ := X
  obtain ⟨hj, hx, hb, hml, hown, hts, hK, hSC, hNW, hR⟩ := V
  intro H locs ls hP hS hl
  by_cases hp : 0 ≤ x
  · rw [if_pos hp] at h
    exact lv_if_ge hx hb d ht (fun _ => g1 h H locs ls hP hS hl) (fun q => absurd hp q)
  · rw [if_neg hp] at h
    exact lv_if_ge hx hb d ht (fun q => absurd q hp) (fun _ => g2 h H locs ls hP hS hl)

theorem ba_icmp_ge {off : Int} {tgt : Nat} {α : Type} {fa fb : Option α} {o : α} {x y : Int32} {D : Decidable (y ≤ x)} (V : ba_V T w nL X cc own rm) (d : decode cc pc = .ok (.if_icmp .ge off, 3)) (ht : (pc : Int) + off = (tgt : Int)) (h : (@ite _ (y ≤ x) D fa fb) = some o) (g1 : fa = some o → ba_G T w nL X σ (tgt) lv st) (g2 : fb = some o → ba_G T w nL X σ (pc + 3) lv st) : ba_G T w nL X σ pc lv (.int y :: .int x :: st) := by
  obtain ⟨p, l, e, R, s, m, args, below, meth, c, Q⟩ := X
  obtain ⟨hj, hx, hb, hml, hown, hts, hK, hSC, hNW, hR⟩ := V
  intro H locs ls hP hS hl
  by_cases hp : y ≤ x
  · rw [if_pos hp] at h
    exact lv_icmp_ge hx hb d ht (fun _ => g1 h H locs ls hP hS hl) (fun q => absurd hp q)
  · rw [if_neg hp] at h
    exact lv_icmp_ge hx hb d ht (fun q => absurd q hp) (fun _ => g2 h H locs ls hP hS hl)

theorem ba_if_gt {off : Int} {tgt : Nat} {α : Type} {fa fb : Option α} {o : α} {x : Int32} {D : Decidable (0 < x)} (V : ba_V T w nL X cc own rm) (d : decode cc pc = .ok (.ifCond .gt off, 3)) (ht : (pc : Int) + off = (tgt : Int)) (h : (@ite _ (0 < x) D fa fb) = some o) (g1 : fa = some o → ba_G T w nL X σ (tgt) lv st) (g2 : fb = some o → ba_G T w nL X σ (pc + 3) lv st) : ba_G T w nL X σ pc lv (.int x :: st) := by
  obtain ⟨p, l, e, R, s, m, args, below, meth, c, Q⟩ := X
  obtain ⟨hj, hx, hb, hml, hown, hts, hK, hSC, hNW, hR⟩ := V
  intro H locs ls hP hS hl
  by_cases hp : 0 < x
  · rw [if_pos hp] at h
    exact lv_if_gt hx hb d ht (fun _ => g1 h H locs ls hP hS hl) (fun q => absurd hp q)
  · rw [if_neg hp] at h
    exact lv_if_gt hx hb d ht (fun q => absurd q hp) (fun _ => g2 h H locs ls hP hS hl)

theorem ba_icmp_gt {off : Int} {tgt : Nat} {α : Type} {fa fb : Option α} {o : α} {x y : Int32} {D : Decidable (y < x)} (V : ba_V T w nL X cc own rm) (d : decode cc pc = .ok (.if_icmp .gt off, 3)) (ht : (pc : Int) + off = (tgt : Int)) (h : (@ite _ (y < x) D fa fb) = some o) (g1 : fa = some o → ba_G T w nL X σ (tgt) lv st) (g2 : fb = some o → ba_G T w nL X σ (pc + 3) lv st) : ba_G T w nL X σ pc lv (.int y :: .int x :: st) := by
  obtain ⟨p, l, e, R, s, m, args, below, meth, c, Q⟩ := X
  obtain ⟨hj, hx, hb, hml, hown, hts, hK, hSC, hNW, hR⟩ := V
  intro H locs ls hP hS hl
  by_cases hp : y < x
  · rw [if_pos hp] at h
    exact lv_icmp_gt hx hb d ht (fun _ => g1 h H locs ls hP hS hl) (fun q => absurd hp q)
  · rw [if_neg hp] at h
    exact lv_icmp_gt hx hb d ht (fun q => absurd q hp) (fun _ => g2 h H locs ls hP hS hl)

theorem ba_if_le {off : Int} {tgt : Nat} {α : Type} {fa fb : Option α} {o : α} {x : Int32} {D : Decidable (x ≤ 0)} (V : ba_V T w nL X cc own rm) (d : decode cc pc = .ok (.ifCond .le off, 3)) (ht : (pc : Int) + off = (tgt : Int)) (h : (@ite _ (x ≤ 0) D fa fb) = some o) (g1 : fa = some o → ba_G T w nL X σ (tgt) lv st) (g2 : fb = some o → ba_G T w nL X σ (pc + 3) lv st) : ba_G T w nL X σ pc lv (.int x :: st) := by
  obtain ⟨p, l, e, R, s, m, args, below, meth, c, Q⟩ := X
  obtain ⟨hj, hx, hb, hml, hown, hts, hK, hSC, hNW, hR⟩ := V
  intro H locs ls hP hS hl
  by_cases hp : x ≤ 0
  · rw [if_pos hp] at h
    exact lv_if_le hx hb d ht (fun _ => g1 h H locs ls hP hS hl) (fun q => absurd hp q)
  · rw [if_neg hp] at h
    exact lv_if_le hx hb d ht (fun q => absurd q hp) (fun _ => g2 h H locs ls hP hS hl)

theorem ba_icmp_le {off : Int} {tgt : Nat} {α : Type} {fa fb : Option α} {o : α} {x y : Int32} {D : Decidable (x ≤ y)} (V : ba_V T w nL X cc own rm) (d : decode cc pc = .ok (.if_icmp .le off, 3)) (ht : (pc : Int) + off = (tgt : Int)) (h : (@ite _ (x ≤ y) D fa fb) = some o) (g1 : fa = some o → ba_G T w nL X σ (tgt) lv st) (g2 : fb = some o → ba_G T w nL X σ (pc + 3) lv st) : ba_G T w nL X σ pc lv (.int y :: .int x :: st) := by
  obtain ⟨p, l, e, R, s, m, args, below, meth, c, Q⟩ := X
  obtain ⟨hj, hx, hb, hml, hown, hts, hK, hSC, hNW, hR⟩ := V
  intro H locs ls hP hS hl
  by_cases hp : x ≤ y
  · rw [if_pos hp] at h
    exact lv_icmp_le hx hb d ht (fun _ => g1 h H locs ls hP hS hl) (fun q => absurd hp q)
  · rw [if_neg hp] at h
    exact lv_icmp_le hx hb d ht (fun q => absurd q hp) (fun _ => g2 h H locs ls hP hS hl)

theorem ba_goto {off : Int} {tgt : Nat} (V : ba_V T w nL X cc own rm) (d : decode cc pc = .ok (.goto off, 3)) (ht : (pc : Int) + off = (tgt : Int)) (g : ba_G T w nL X σ tgt lv st) : ba_G T w nL X σ pc lv st := by
  obtain ⟨p, l, e, R, s, m, args, below, meth, c, Q⟩ := X
  obtain ⟨hj, hx, hb, hml, hown, hts, hK, hSC, hNW, hR⟩ := V
  intro H locs ls hP hS hl
  exact lv_goto hx hb d ht (g H locs ls hP hS hl)

theorem ba_lcmp_eq {off : Int} {tgt : Nat} {α : Type} {fa fb : Option α} {o : α} {x y : Int64} {D : Decidable (x = y)} (V : ba_V T w nL X cc own rm) (d : decode cc pc = .ok (.lcmp, 1)) (d2 : decode cc (pc + 1) = .ok (.ifCond .eq off, 3)) (ht : ((pc + 1 : Nat) : Int) + off = (tgt : Int)) (h : (@ite _ (x = y) D fa fb) = some o) (g1 : fa = some o → ba_G T w nL X σ (tgt) lv st) (g2 : fb = some o → ba_G T w nL X σ (pc + 1 + 3) lv st) : ba_G T w nL X σ pc lv (.long y :: .long x :: st) := by
  obtain ⟨p, l, e, R, s, m, args, below, meth, c, Q⟩ := X
  obtain ⟨hj, hx, hb, hml, hown, hts, hK, hSC, hNW, hR⟩ := V
  intro H locs ls hP hS hl
  refine W.lcmp hx hb d ?_
  by_cases hp : x = y
  · rw [if_pos hp] at h
    have hq := (lg_cmp_eq _ _).mpr hp
    exact lv_if_eq hx hb d2 ht (fun _ => g1 h H locs ls hP hS hl) (fun q => absurd hq q)
  · rw [if_neg hp] at h
    have hq := fun z => hp ((lg_cmp_eq _ _).mp z)
    exact lv_if_eq hx hb d2 ht (fun q => absurd q hq) (fun _ => g2 h H locs ls hP hS hl)

theorem ba_lcmp_ne {off : Int} {tgt : Nat} {α : Type} {fa fb : Option α} {o : α} {x y : Int64} {D : Decidable (x = y)} (V : ba_V T w nL X cc own rm) (d : decode cc pc = .ok (.lcmp, 1)) (d2 : decode cc (pc + 1) = .ok (.ifCond .ne off, 3)) (ht : ((pc + 1 : Nat) : Int) + off = (tgt : Int)) (h : (@ite _ (x = y) D fa fb) = some o) (g1 : fa = some o → ba_G T w nL X σ (pc + 1 + 3) lv st) (g2 : fb = some o → ba_G T w nL X σ (tgt) lv st) : ba_G T w nL X σ pc lv (.long y :: .long x :: st) := by
  obtain ⟨p, l, e, R, s, m, args, below, meth, c, Q⟩ := X
  obtain ⟨hj, hx, hb, hml, hown, hts, hK, hSC, hNW, hR⟩ := V
  intro H locs ls hP hS hl
  refine W.lcmp hx hb d ?_
  by_cases hp : x = y
  · rw [if_pos hp] at h
    have hq := (lg_cmp_eq _ _).mpr hp
    exact lv_if_ne hx hb d2 ht (fun q => absurd hq q) (fun _ => g1 h H locs ls hP hS hl)
  · rw [if_neg hp] at h
    have hq := fun z => hp ((lg_cmp_eq _ _).mp z)
    exact lv_if_ne hx hb d2 ht (fun _ => g2 h H locs ls hP hS hl) (fun q => absurd q hq)

theorem ba_lcmp_lt {off : Int} {tgt : Nat} {α : Type} {fa fb : Option α} {o : α} {x y : Int64} {D : Decidable (x < y)} (V : ba_V T w nL X cc own rm) (d : decode cc pc = .ok (.lcmp, 1)) (d2 : decode cc (pc + 1) = .ok (.ifCond .lt off, 3)) (ht : ((pc + 1 : Nat) : Int) + off = (tgt : Int)) (h : (@ite _ (x < y) D fa fb) = some o) (g1 : fa = some o → ba_G T w nL X σ (tgt) lv st) (g2 : fb = some o → ba_G T w nL X σ (pc + 1 + 3) lv st) : ba_G T w nL X σ pc lv (.long y :: .long x :: st) := by
  obtain ⟨p, l, e, R, s, m, args, below, meth, c, Q⟩ := X
  obtain ⟨hj, hx, hb, hml, hown, hts, hK, hSC, hNW, hR⟩ := V
  intro H locs ls hP hS hl
  refine W.lcmp hx hb d ?_
  by_cases hp : x < y
  · rw [if_pos hp] at h
    have hq := (lg_cmp_lt _ _).mpr hp
    exact lv_if_lt hx hb d2 ht (fun _ => g1 h H locs ls hP hS hl) (fun q => absurd hq q)
  · rw [if_neg hp] at h
    have hq := fun z => hp ((lg_cmp_lt _ _).mp z)
    exact lv_if_lt hx hb d2 ht (fun q => absurd q hq) (fun _ => g2 h H locs ls hP hS hl)

theorem ba_lcmp_ge {off : Int} {tgt : Nat} {α : Type} {fa fb : Option α} {o : α} {x y : Int64} {D : Decidable (y ≤ x)} (V : ba_V T w nL X cc own rm) (d : decode cc pc = .ok (.lcmp, 1)) (d2 : decode cc (pc + 1) = .ok (.ifCond .ge off, 3)) (ht : ((pc + 1 : Nat) : Int) + off = (tgt : Int)) (h : (@ite _ (y ≤ x) D fa fb) = some o) (g1 : fa = some o → ba_G T w nL X σ (tgt) lv st) (g2 : fb = some o → ba_G T w nL X σ (pc + 1 + 3) lv st) : ba_G T w nL X σ pc lv (.long y :: .long x :: st) := by
  obtain ⟨p, l, e, R, s, m, args, below, meth, c, Q⟩ := X
  obtain ⟨hj, hx, hb, hml, hown, hts, hK, hSC, hNW, hR⟩ := V
  intro H locs ls hP hS hl
  refine W.lcmp hx hb d ?_
  by_cases hp : y ≤ x
  · rw [if_pos hp] at h
    have hq := (lg_cmp_ge _ _).mpr hp
    exact lv_if_ge hx hb d2 ht (fun _ => g1 h H locs ls hP hS hl) (fun q => absurd hq q)
  · rw [if_neg hp] at h
    have hq := fun z => hp ((lg_cmp_ge _ _).mp z)
    exact lv_if_ge hx hb d2 ht (fun q => absurd q hq) (fun _ => g2 h H locs ls hP hS hl)

theorem ba_lcmp_gt {off : Int} {tgt : Nat} {α : Type} {fa fb : Option α} {o : α} {x y : Int64} {D : Decidable (y < x)} (V : ba_V T w nL X cc own rm) (d : decode cc pc = .ok (.lcmp, 1)) (d2 : decode cc (pc + 1) = .ok (.ifCond .gt off, 3)) (ht : ((pc + 1 : Nat) : Int) + off = (tgt : Int)) (h : (@ite _ (y < x) D fa fb) = some o) (g1 : fa = some o → ba_G T w nL X σ (tgt) lv st) (g2 : fb = some o → ba_G T w nL X σ (pc + 1 + 3) lv st) : ba_G T w nL X σ pc lv (.long y :: .long x :: st) := by
  obtain ⟨p, l, e, R, s, m, args, below, meth, c, Q⟩ := X
  obtain ⟨hj, hx, hb, hml, hown, hts, hK, hSC, hNW, hR⟩ := V
  intro H locs ls hP hS hl
  refine W.lcmp hx hb d ?_
  by_cases hp : y < x
  · rw [if_pos hp] at h
    have hq := (lg_cmp_gt _ _).mpr hp
    exact lv_if_gt hx hb d2 ht (fun _ => g1 h H locs ls hP hS hl) (fun q => absurd hq q)
  · rw [if_neg hp] at h
    have hq := fun z => hp ((lg_cmp_gt _ _).mp z)
    exact lv_if_gt hx hb d2 ht (fun q => absurd q hq) (fun _ => g2 h H locs ls hP hS hl)

theorem ba_lcmp_le {off : Int} {tgt : Nat} {α : Type} {fa fb : Option α} {o : α} {x y : Int64} {D : Decidable (x ≤ y)} (V : ba_V T w nL X cc own rm) (d : decode cc pc = .ok (.lcmp, 1)) (d2 : decode cc (pc + 1) = .ok (.ifCond .le off, 3)) (ht : ((pc + 1 : Nat) : Int) + off = (tgt : Int)) (h : (@ite _ (x ≤ y) D fa fb) = some o) (g1 : fa = some o → ba_G T w nL X σ (tgt) lv st) (g2 : fb = some o → ba_G T w nL X σ (pc + 1 + 3) lv st) : ba_G T w nL X σ pc lv (.long y :: .long x :: st) := by
  obtain ⟨p, l, e, R, s, m, args, below, meth, c, Q⟩ := X
  obtain ⟨hj, hx, hb, hml, hown, hts, hK, hSC, hNW, hR⟩ := V
  intro H locs ls hP hS hl
  refine W.lcmp hx hb d ?_
  by_cases hp : x ≤ y
  · rw [if_pos hp] at h
    have hq := (lg_cmp_le _ _).mpr hp
    exact lv_if_le hx hb d2 ht (fun _ => g1 h H locs ls hP hS hl) (fun q => absurd hq q)
  · rw [if_neg hp] at h
    have hq := fun z => hp ((lg_cmp_le _ _).mp z)
    exact lv_if_le hx hb d2 ht (fun q => absurd q hq) (fun _ => g2 h H locs ls hP hS hl)

theorem ba_getI {idx ci j k : Nat} {ty : FieldType} {fin : Bool} {fl : List (Option Nat)} (V : ba_V T w nL X cc own rm) (d : decode cc pc = .ok (.getfield idx, 3)) (L : ba_FL T own idx ci j ty fin) (S : ba_Sh T k (.inl (ci, fl))) (hf : fl[j]? = some none) (g : ba_G T w nL X σ (pc + 3) lv (.int (σ.1 k j) :: st)) : ba_G T w nL X σ pc lv (.ref (w.1 k) :: st) := by
  obtain ⟨p, l, e, R, s, m, args, below, meth, c, Q⟩ := X
  obtain ⟨hj, hx, hb, hml, hown, hts, hK, hSC, hNW, hR⟩ := V
  obtain ⟨C, F, N, ty0, h1, h2, h3, h4, h5, h6, h7, h8⟩ := L
  intro H locs ls hP hS hl
  have he : (ba_ws T w σ)[k]? = some (w.1 k, .inr (ci, ba_fl w.1 (σ.1 k) 0 fl)) := by rw [ba_ws_at S.1, S.2]; rfl
  refine va_get (D := w.2.2.1) (v := .int (σ.1 k j)) hx hb hts h3 hown hK hP k he h1 j h2 (hts _ h6) (fun _ h9 => h9) ?_ d (g H locs ls hP hS hl)
  rw [ba_fl_at hf, Nat.zero_add]; rfl
theorem ba_getR {idx ci j k q : Nat} {ty : FieldType} {fin : Bool} {fl : List (Option Nat)} (V : ba_V T w nL X cc own rm) (d : decode cc pc = .ok (.getfield idx, 3)) (L : ba_FL T own idx ci j ty fin) (S : ba_Sh T k (.inl (ci, fl))) (hf : fl[j]? = some (some q)) (g : ba_G T w nL X σ (pc + 3) lv (.ref (w.1 q) :: st)) : ba_G T w nL X σ pc lv (.ref (w.1 k) :: st) := by
  obtain ⟨p, l, e, R, s, m, args, below, meth, c, Q⟩ := X
  obtain ⟨hj, hx, hb, hml, hown, hts, hK, hSC, hNW, hR⟩ := V
  obtain ⟨C, F, N, ty0, h1, h2, h3, h4, h5, h6, h7, h8⟩ := L
  intro H locs ls hP hS hl
  have he : (ba_ws T w σ)[k]? = some (w.1 k, .inr (ci, ba_fl w.1 (σ.1 k) 0 fl)) := by rw [ba_ws_at S.1, S.2]; rfl
  refine va_get (D := w.2.2.1) (v := .ref (w.1 q)) hx hb hts h3 hown hK hP k he h1 j h2 (hts _ h6) (fun _ h9 => h9) ?_ d (g H locs ls hP hS hl)
  rw [ba_fl_at hf]; rfl
theorem ba_w_at (σ : ba_St) (k j : Nat) (v : Int32) : (ba_w σ k j v).1 k = fun q => if q = j then v else σ.1 k q := by
  funext q
  show (if k = k ∧ q = j then v else σ.1 k q) = _
  by_cases h : q = j <;> simp [h]
theorem ba_w_off (σ : ba_St) {k p : Nat} (j : Nat) (v : Int32) (h : p ≠ k) : (ba_w σ k j v).1 p = σ.1 p := by
  funext q
  show (if p = k ∧ q = j then v else σ.1 p q) = _
  rw [if_neg (fun z => h z.1)]
theorem ba_putX {idx ci j k : Nat} {ty : FieldType} {fl : List (Option Nat)} {v : Int32} {α : Type} {f : ba_St → Option α} {o : α} (V : ba_V T w nL X cc own rm) (d : decode cc pc = .ok (.putfield idx, 3)) (L : ba_FL T own idx ci j ty false) (S : ba_Sh T k (.inl (ci, fl))) (hf : fl[j]? = some none) (hn : narrow ty (.int v) = .int v) (hv : fits ty (.int v) = true) (h : ba_lt (ba_w σ k j v) f = some o) (g : ∀ s', f s' = some o → ba_G T w nL X s' (pc + 3) lv st) : ba_G T w nL X σ pc lv (.int v :: .ref (w.1 k) :: st) := by
  replace g := g _ h
  obtain ⟨p, l, e, R, s, m, args, below, meth, c, Q⟩ := X
  obtain ⟨hj, hx, hb, hml, hown, hts, hK, hSC, hNW, hR⟩ := V
  obtain ⟨C, F, N, ty0, h1, h2, h3, h4, h5, h6, h7, h8⟩ := L
  intro H locs ls hP hS hl
  have he : (ba_ws T w σ)[k]? = some (w.1 k, .inr (ci, ba_fl w.1 (σ.1 k) 0 fl)) := by rw [ba_ws_at S.1, S.2]; rfl
  have hlen : j < (ba_fl w.1 (σ.1 k) 0 fl).length := by rw [ba_fl_len]; exact (List.getElem?_eq_some_iff.mp hf).1
  have hset : (ba_ws T w σ).set k (w.1 k, .inr (ci, (ba_fl w.1 (σ.1 k) 0 fl).set j (.int v))) = ba_ws T w (ba_w σ k j v) := by
    refine ba_ws_set ?_ (fun p hp => ⟨ba_w_off σ j v hp, rfl⟩)
    rw [S.2]
    show Sum.inr (ci, _) = Sum.inr (ci, _)
    rw [ba_fl_set (g := (ba_w σ k j v).1 k) hf (by rw [ba_w_at]; simp) (fun q hq => by rw [ba_w_at]; simp at hq; simp [hq])]
  refine va_put (D := w.2.2.1) hx hb hts h3 ty0 h4 h5 hown hK hP (ba_ws_D hj σ) hS k he h1 j h2 (hts _ h6) (fun _ h9 => h9) h7 (by rw [h4 j h2, h8]) hn hv hlen d (fun H1 locs1 a1 a2 a3 => ?_)
  rw [hset] at a1
  exact g H1 locs1 ls a1 a3 hl
theorem ba_putI {idx ci j k : Nat} {fl : List (Option Nat)} {v : Int32} {α : Type} {f : ba_St → Option α} {o : α} (V : ba_V T w nL X cc own rm) (d : decode cc pc = .ok (.putfield idx, 3)) (L : ba_FL T own idx ci j .int false) (S : ba_Sh T k (.inl (ci, fl))) (hf : fl[j]? = some none) (h : ba_lt (ba_w σ k j v) f = some o) (g : ∀ s', f s' = some o → ba_G T w nL X s' (pc + 3) lv st) : ba_G T w nL X σ pc lv (.int v :: .ref (w.1 k) :: st) :=
  ba_putX V d L S hf (vp_nar_int v) rfl h g
theorem ba_nz : ∀ {v : Int32}, v = 0 ∨ v = 1 → narrow .boolean (.int v) = .int v ∧ fits .boolean (.int v) = true := by
  intro v h
  rcases h with rfl | rfl <;> exact ⟨by decide +kernel, by decide +kernel⟩
theorem ba_putZ {idx ci j k : Nat} {fl : List (Option Nat)} {v : Int32} {α : Type} {f : ba_St → Option α} {o : α} (V : ba_V T w nL X cc own rm) (d : decode cc pc = .ok (.putfield idx, 3)) (L : ba_FL T own idx ci j .boolean false) (S : ba_Sh T k (.inl (ci, fl))) (hf : fl[j]? = some none) (z : v = 0 ∨ v = 1) (h : ba_lt (ba_w σ k j v) f = some o) (g : ∀ s', f s' = some o → ba_G T w nL X s' (pc + 3) lv st) : ba_G T w nL X σ pc lv (.int v :: .ref (w.1 k) :: st) :=
  ba_putX V d L S hf (ba_nz z).1 (ba_nz z).2 h g
/-- the array types of a world: ints, longs, then references -/
def ba_ok (T : ba_T) : Prop := T.2.2.2.1[0]? = some .int ∧ T.2.2.2.1[1]? = some .long
theorem ba_ty {t : Nat} {ty : FieldType} (h : T.2.2.2.1[t]? = some ty) : (ba_tys T w)[t]? = some (w.2.1 t, ty) := by
  have hl := (List.getElem?_eq_some_iff.mp h).1
  unfold ba_tys
  rw [List.getElem?_map, List.getElem?_range hl]
  simp only [Option.map_some, List.getD_eq_getElem?_getD, h, Option.getD_some]
theorem ba_iald {n k : Nat} {i : Int32} {α : Type} {f : Option α} {o : α} (V : ba_V T w nL X cc own rm) (d : decode cc pc = .ok (.iaload, 1)) (S : ba_Sh T k (.inr (.inl n)) ∧ ba_ok T) (h : ba_grd (ba_inb i n) f = some o) (g : f = some o → ba_G T w nL X σ (pc + 1) lv (.int (σ.1 k (ba_ix i)) :: st)) : ba_G T w nL X σ pc lv (.int i :: .ref (w.1 k) :: st) := by
  replace g := g (ba_grd_some h).2
  have hi := ba_inb_in (ba_grd_some h).1
  obtain ⟨p, l, e, R, s, m, args, below, meth, c, Q⟩ := X
  obtain ⟨hj, hx, hb, hml, hown, hts, hK, hSC, hNW, hR⟩ := V
  intro H locs ls hP hS hl
  have he : (ba_ws T w σ)[k]? = some (w.1 k, .inl (w.2.1 0, n, .inl (σ.1 k))) := by rw [ba_ws_at S.1.1, S.1.2]; rfl
  exact va_iald hx hb hK hP k 0 he (ba_ty S.2.1) hi d (g H locs ls hP hS hl)
theorem ba_lald {n k : Nat} {i : Int32} {α : Type} {f : Option α} {o : α} (V : ba_V T w nL X cc own rm) (d : decode cc pc = .ok (.laload, 1)) (S : ba_Sh T k (.inr (.inr (.inl n))) ∧ ba_ok T) (h : ba_grd (ba_inb i n) f = some o) (g : f = some o → ba_G T w nL X σ (pc + 1) lv (.long (σ.2 k (ba_ix i)) :: st)) : ba_G T w nL X σ pc lv (.int i :: .ref (w.1 k) :: st) := by
  replace g := g (ba_grd_some h).2
  have hi := ba_inb_in (ba_grd_some h).1
  obtain ⟨p, l, e, R, s, m, args, below, meth, c, Q⟩ := X
  obtain ⟨hj, hx, hb, hml, hown, hts, hK, hSC, hNW, hR⟩ := V
  intro H locs ls hP hS hl
  have he : (ba_ws T w σ)[k]? = some (w.1 k, .inl (w.2.1 1, n, .inr (.inl (σ.2 k)))) := by rw [ba_ws_at S.1.1, S.1.2]; rfl
  exact va_lald hx hb hK hP k 1 he (ba_ty S.2.2) hi d (g H locs ls hP hS hl)
theorem ba_iast {n k : Nat} {i v : Int32} {α : Type} {f : ba_St → Option α} {o : α} (V : ba_V T w nL X cc own rm) (d : decode cc pc = .ok (.iastore, 1)) (S : ba_Sh T k (.inr (.inl n)) ∧ ba_ok T) (h : ba_grd (ba_inb i n) (ba_lt (ba_w σ k (ba_ix i) v) f) = some o) (g : ∀ s', f s' = some o → ba_G T w nL X s' (pc + 1) lv st) : ba_G T w nL X σ pc lv (.int v :: .int i :: .ref (w.1 k) :: st) := by
  replace g := g _ (ba_grd_some h).2
  have hi := ba_inb_in (ba_grd_some h).1
  obtain ⟨p, l, e, R, s, m, args, below, meth, c, Q⟩ := X
  obtain ⟨hj, hx, hb, hml, hown, hts, hK, hSC, hNW, hR⟩ := V
  intro H locs ls hP hS hl
  have he : (ba_ws T w σ)[k]? = some (w.1 k, .inl (w.2.1 0, n, .inl (σ.1 k))) := by rw [ba_ws_at S.1.1, S.1.2]; rfl
  refine va_iast hx hb hK hP (ba_ws_D hj σ) hS k 0 he (ba_ty S.2.1) hi d (fun H1 locs1 a1 a2 a3 => ?_)
  rw [ba_ws_set (σ' := ba_w σ k (ba_ix i) v) (by rw [S.1.2, ba_w_at]; rfl) (fun p hp => ⟨ba_w_off σ _ v hp, rfl⟩)] at a1
  exact g H1 locs1 ls a1 a3 hl
theorem ba_last {n k : Nat} {i : Int32} {v : Int64} {α : Type} {f : ba_St → Option α} {o : α} (V : ba_V T w nL X cc own rm) (d : decode cc pc = .ok (.lastore, 1)) (S : ba_Sh T k (.inr (.inr (.inl n))) ∧ ba_ok T) (h : ba_grd (ba_inb i n) (ba_lt (ba_wl σ k (ba_ix i) v) f) = some o) (g : ∀ s', f s' = some o → ba_G T w nL X s' (pc + 1) lv st) : ba_G T w nL X σ pc lv (.long v :: .int i :: .ref (w.1 k) :: st) := by
  replace g := g _ (ba_grd_some h).2
  have hi := ba_inb_in (ba_grd_some h).1
  obtain ⟨p, l, e, R, s, m, args, below, meth, c, Q⟩ := X
  obtain ⟨hj, hx, hb, hml, hown, hts, hK, hSC, hNW, hR⟩ := V
  intro H locs ls hP hS hl
  have he : (ba_ws T w σ)[k]? = some (w.1 k, .inl (w.2.1 1, n, .inr (.inl (σ.2 k)))) := by rw [ba_ws_at S.1.1, S.1.2]; rfl
  refine va_last hx hb hK hP (ba_ws_D hj σ) hS k 1 he (ba_ty S.2.2) hi d (fun H1 locs1 a1 a2 a3 => ?_)
  have e1 : (ba_wl σ k (ba_ix i) v).2 k = vp_updL (σ.2 k) i.toNatClampNeg v := by
    funext q
    show (if k = k ∧ q = ba_ix i then v else σ.2 k q) = if q = i.toNatClampNeg then v else σ.2 k q
    simp [ba_ix]
  have hset : (ba_ws T w σ).set k (w.1 k, .inl (w.2.1 1, n, .inr (.inl (vp_updL (σ.2 k) i.toNatClampNeg v)))) = ba_ws T w (ba_wl σ k (ba_ix i) v) := by
    refine ba_ws_set (by rw [S.1.2, e1]; rfl) (fun p hp => ⟨rfl, ?_⟩)
    funext q
    show (if p = k ∧ q = ba_ix i then v else σ.2 p q) = σ.2 p q
    rw [if_neg (fun z => hp z.1)]
  rw [hset] at a1
  exact g H1 locs1 ls a1 a3 hl
theorem ba_aald {n k t b r : Nat} {C : String} {i : Int32} {α : Type} {f : Option α} {o : α} (V : ba_V T w nL X cc own rm) (d : decode cc pc = .ok (.aaload, 1)) (S : ba_Sh T k (.inr (.inr (.inr (t, n, b, r)))) ∧ T.2.2.2.1[t]? = some (.object C)) (h : ba_grd (ba_inb i n) f = some o) (g : ba_inb i n = true → f = some o → ba_G T w nL X σ (pc + 1) lv (.ref (w.1 (b + r * ba_ix i)) :: st)) : ba_G T w nL X σ pc lv (.int i :: .ref (w.1 k) :: st) := by
  replace g := g (ba_grd_some h).1 (ba_grd_some h).2
  have hi := ba_inb_in (ba_grd_some h).1
  obtain ⟨p, l, e, R, s, m, args, below, meth, c, Q⟩ := X
  obtain ⟨hj, hx, hb, hml, hown, hts, hK, hSC, hNW, hR⟩ := V
  intro H locs ls hP hS hl
  have he : (ba_ws T w σ)[k]? = some (w.1 k, .inl (w.2.1 t, n, .inr (.inr (.inr (.inr (fun i => some (w.1 (b + r * i)))))))) := by rw [ba_ws_at S.1.1, S.1.2]; rfl
  exact va_aldq hx hb hK hP k t he (ba_ty S.2) hi d (g H locs ls hP hS hl)
theorem ba_alen {n k : Nat} (V : ba_V T w nL X cc own rm) (d : decode cc pc = .ok (.arraylength, 1)) (S : ba_Sh T k (.inr (.inl n)) ∧ ba_ok T) (g : ba_G T w nL X σ (pc + 1) lv (.int (nI n) :: st)) : ba_G T w nL X σ pc lv (.ref (w.1 k) :: st) := by
  obtain ⟨p, l, e, R, s, m, args, below, meth, c, Q⟩ := X
  obtain ⟨hj, hx, hb, hml, hown, hts, hK, hSC, hNW, hR⟩ := V
  intro H locs ls hP hS hl
  have he : (ba_ws T w σ)[k]? = some (w.1 k, .inl (w.2.1 0, n, .inl (σ.1 k))) := by rw [ba_ws_at S.1.1, S.1.2]; rfl
  exact va_alen hx hb hK hP k 0 he (ba_ty S.2.1) rfl d (g H locs ls hP hS hl)
/-! static tables -/
theorem ba_gets {idx i : Nat} {q : String × String × List Int32} (V : ba_V T w nL X cc own rm) (d : decode cc pc = .ok (.getstatic idx, 3)) (hw : Cond.fieldLink own idx q.1 q.2.1 "[I" ∈ ba_tb) (hq : T.2.2.2.2.1[i]? = some q) (g : ba_G T w nL X σ (pc + 3) lv (.ref (w.2.2.2 i) :: st)) : ba_G T w nL X σ pc lv st := by
  obtain ⟨p, l, e, R, s, m, args, below, meth, c, Q⟩ := X
  obtain ⟨hj, hx, hb, hml, hown, hts, hK, hSC, hNW, hR⟩ := V
  intro H locs ls hP hS hl
  exact va_gets hx hb (hSC i q hq).1 hS hown (hts _ hw) (fun _ h9 => h9) d (g H locs ls hP hS hl)
theorem ba_sald {i : Nat} {q : String × String × List Int32} {j : Int32} {α : Type} {f : Option α} {o : α} (V : ba_V T w nL X cc own rm) (d : decode cc pc = .ok (.iaload, 1)) (hq : T.2.2.2.2.1[i]? = some q) (h : ba_grd (ba_inb j q.2.2.length) f = some o) (g : f = some o → ba_G T w nL X σ (pc + 1) lv (.int (ba_tv q.2.2 j) :: st)) : ba_G T w nL X σ pc lv (.int j :: .ref (w.2.2.2 i) :: st) := by
  replace g := g (ba_grd_some h).2
  have hi := ba_inb_in (ba_grd_some h).1
  obtain ⟨p, l, e, R, s, m, args, below, meth, c, Q⟩ := X
  obtain ⟨hj, hx, hb, hml, hown, hts, hK, hSC, hNW, hR⟩ := V
  intro H locs ls hP hS hl
  exact va_ti hx hb (hSC i q hq).2 hS hi (v := .int (ba_tv q.2.2 j)) rfl d (g H locs ls hP hS hl)

theorem ba_slen {i : Nat} {q : String × String × List Int32} (V : ba_V T w nL X cc own rm) (d : decode cc pc = .ok (.arraylength, 1)) (hq : T.2.2.2.2.1[i]? = some q) (g : ba_G T w nL X σ (pc + 1) lv (.int (nI q.2.2.length) :: st)) : ba_G T w nL X σ pc lv (.ref (w.2.2.2 i) :: st) := by
  obtain ⟨p, l, e, R, s, m, args, below, meth, c, Q⟩ := X
  obtain ⟨hj, hx, hb, hml, hown, hts, hK, hSC, hNW, hR⟩ := V
  intro H locs ls hP hS hl
  exact va_tlen hx hb (hSC i q hq).2 hS rfl d (g H locs ls hP hS hl)
/-! switches: one way at a time -/
theorem ba_swT {x : Int32} {dflt lo hi : Int} {offs : Array Int} {len : Nat} {off : Int} {tgt : Nat} (V : ba_V T w nL X cc own rm) (d : decode cc pc = .ok (.tableswitch dflt lo hi offs, len)) (hh : (¬ x.toInt < lo ∧ ¬ hi < x.toInt ∧ offs[(x.toInt - lo).toNat]? = some off) ∨ ((x.toInt < lo ∨ hi < x.toInt) ∧ off = dflt)) (ht : (pc : Int) + off = (tgt : Int)) (g : ba_G T w nL X σ tgt lv st) : ba_G T w nL X σ pc lv (.int x :: st) := by
  obtain ⟨p, l, e, R, s, m, args, below, meth, c, Q⟩ := X
  obtain ⟨hj, hx, hb, hml, hown, hts, hK, hSC, hNW, hR⟩ := V
  intro H locs ls hP hS hl
  rcases hh with ⟨a1, a2, a3⟩ | ⟨a1, rfl⟩
  · exact lv_tableIn hx hb d a1 a2 a3 ht (g H locs ls hP hS hl)
  · exact lv_tableOut hx hb d a1 ht (g H locs ls hP hS hl)
theorem ba_swL {x : Int32} {dflt : Int} {ps : Array (Int × Int)} {len : Nat} {off : Int} {tgt : Nat} (V : ba_V T w nL X cc own rm) (d : decode cc pc = .ok (.lookupswitch dflt ps, len)) (hp : (ps.toList.zip (ps.toList.drop 1)).all (fun (a, next) => a.1 < next.1) = true) (ho : Op.lookupswitch.offset ps.toList dflt x.toInt = off) (ht : (pc : Int) + off = (tgt : Int)) (g : ba_G T w nL X σ tgt lv st) : ba_G T w nL X σ pc lv (.int x :: st) := by
  obtain ⟨p, l, e, R, s, m, args, below, meth, c, Q⟩ := X
  obtain ⟨hj, hx, hb, hml, hown, hts, hK, hSC, hNW, hR⟩ := V
  intro H locs ls hP hS hl
  exact lv_lookup hx hb d hp ho ht (g H locs ls hP hS hl)
theorem ba_ne {x k : Int32} (h : ¬ x = k) : ¬ x.toInt = k.toInt := fun q => h (Int32.toInt_inj.mp q)
/-! the library's -/
theorem ba_acopy {idx n0 n1 a b : Nat} {sp dp n : Int32} {α : Type} {f : ba_St → Option α} {o : α} (V : ba_V T w nL X cc own rm) (d : decode cc pc = .ok (.invokestatic idx, 3)) (hw : Cond.methodLink own idx arraycopyName ∈ ba_tb ∧ Cond.native arraycopyName ∈ ba_tb ∧ Cond.static arraycopyName ∈ ba_tb ∧ Cond.initialized "java/lang/System" ∈ ba_tb ∧ 1 ≤ rm.frames ∧ (nativeFrameWords "java/lang/System" "arraycopy" 5 + 11) + (st.map fun v => v.category).sum ≤ rm.locals)
    (S0 : ba_Sh T a (.inr (.inl n0)) ∧ ba_ok T) (S1 : ba_Sh T b (.inr (.inl n1)) ∧ ba_ok T) (h : ba_grd (ba_cok sp dp n n0 n1) (ba_lt (ba_cp σ a b (ba_ix sp) (ba_ix dp) (ba_ix n)) f) = some o) (g : ∀ s', f s' = some o → ba_G T w nL X s' (pc + 3) lv st) : ba_G T w nL X σ pc lv (.int n :: .int dp :: .ref (w.1 b) :: .int sp :: .ref (w.1 a) :: st) := by
  replace g := g _ (ba_grd_some h).2
  have hk := (ba_grd_some h).1
  unfold ba_cok at hk
  simp only [Bool.and_eq_true, decide_eq_true_eq] at hk
  obtain ⟨⟨⟨⟨k1, k2⟩, k3⟩, k4⟩, k5⟩ := hk
  obtain ⟨p, l, e, R, s, m, args, below, meth, c, Q⟩ := X
  obtain ⟨hj, hx, hb, hml, hown, hts, hK, hSC, hNW, hR⟩ := V
  obtain ⟨w1, w2, w3, w4, w5, w6⟩ := hw
  subst hR
  intro H locs ls hP hS hl
  have he0 : (ba_ws T w σ)[a]? = some (w.1 a, .inl (w.2.1 0, n0, .inl (σ.1 a))) := by rw [ba_ws_at S0.1.1, S0.1.2]; rfl
  have he1 : (ba_ws T w σ)[b]? = some (w.1 b, .inl (w.2.1 0, n1, .inl (σ.1 b))) := by rw [ba_ws_at S1.1.1, S1.1.2]; rfl
  refine va_copyi hx hb (by rw [hml]; exact hl.1.symm) hown (hts _ w1) (hts _ w2) (hts _ w3) (hts _ w4) hK hP (ba_ws_D hj σ) hS a b 0 0 he0 he1 (ba_ty S0.2.1) (ba_ty S0.2.1) rfl (Int32.not_lt.mpr k1) (Int32.not_lt.mpr k2) (Int32.not_lt.mpr k3) k4 k5 (fun _ _ => rfl) w5 (by omega) d (fun H1 locs1 a1 a2 a3 => ?_)
  have hset : (ba_ws T w σ).set b (w.1 b, .inl (w.2.1 0, n1, .inl (va_cpy (σ.1 a) (σ.1 b) sp.toNatClampNeg dp.toNatClampNeg n.toNatClampNeg))) = ba_ws T w (ba_cp σ a b (ba_ix sp) (ba_ix dp) (ba_ix n)) := by
    refine ba_ws_set ?_ (fun p hp => ⟨by funext q; show (if p = b then _ else _) = _; rw [if_neg hp], rfl⟩)
    rw [S1.1.2]
    show Sum.inl (w.2.1 0, n1, Sum.inl _) = Sum.inl (w.2.1 0, n1, Sum.inl _)
    congr 4
    funext q
    show _ = if b = b then _ else _
    rw [if_pos rfl]
    rfl
  rw [hset] at a1
  exact g H1 locs1 ls a1 a3 hl
theorem ba_Mmax {idx : Nat} {x y : Int32} (V : ba_V T w nL X cc own rm) (d : decode cc pc = .ok (.invokestatic idx, 3)) (hw : Cond.methodLink own idx Lib.Math.max.name ∈ ba_tb ∧ Cond.static Lib.Math.max.name ∈ ba_tb ∧ Cond.initialized "java/lang/Math" ∈ ba_tb ∧ Cond.code Lib.Math.max.name Lib.Math.max.code 2 (some .int) ∈ ba_tb ∧ 1 ≤ rm.frames ∧ (st.map fun v => v.category).sum + 13 ≤ rm.locals) (g : ba_G T w nL X σ (pc + 3) lv (.int (ba_max x y) :: st)) : ba_G T w nL X σ pc lv (.int y :: .int x :: st) := by
  obtain ⟨p, l, e, R, s, m, args, below, meth, c, Q⟩ := X
  obtain ⟨hj, hx, hb, hml, hown, hts, hK, hSC, hNW, hR⟩ := V
  obtain ⟨w1, w2, w3, w4, w5, w6⟩ := hw
  subst hR
  intro H locs ls hP hS hl
  exact va_mmax hx hb (by rw [hml]; exact hl.1.symm) hown (hts _ w1) (hts _ w2) (hts _ w3) (hts _ w4) w5 w6 (Nat.zero_le _) (Nat.zero_le _) d (g H locs ls hP hS hl)
theorem ba_Mmin {idx : Nat} {x y : Int32} (V : ba_V T w nL X cc own rm) (d : decode cc pc = .ok (.invokestatic idx, 3)) (hw : Cond.methodLink own idx Lib.Math.min.name ∈ ba_tb ∧ Cond.static Lib.Math.min.name ∈ ba_tb ∧ Cond.initialized "java/lang/Math" ∈ ba_tb ∧ Cond.code Lib.Math.min.name Lib.Math.min.code 2 (some .int) ∈ ba_tb ∧ 1 ≤ rm.frames ∧ (st.map fun v => v.category).sum + 13 ≤ rm.locals) (g : ba_G T w nL X σ (pc + 3) lv (.int (ba_min x y) :: st)) : ba_G T w nL X σ pc lv (.int y :: .int x :: st) := by
  obtain ⟨p, l, e, R, s, m, args, below, meth, c, Q⟩ := X
  obtain ⟨hj, hx, hb, hml, hown, hts, hK, hSC, hNW, hR⟩ := V
  obtain ⟨w1, w2, w3, w4, w5, w6⟩ := hw
  subst hR
  intro H locs ls hP hS hl
  exact va_mmin hx hb (by rw [hml]; exact hl.1.symm) hown (hts _ w1) (hts _ w2) (hts _ w3) (hts _ w4) w5 w6 (Nat.zero_le _) (Nat.zero_le _) d (g H locs ls hP hS hl)

theorem ba_callVI {idx n maxL : Nat} {y : MethodName} {bytes : ByteArray} {ret : Option FieldType} {rm' : Room} {As : List Value} {σ' : ba_St} {st0 : List Value} {v : Int32} {ci k : Nat} {fl : List (Option Nat)} (V : ba_V T w nL X cc own rm) (d : decode cc pc = .ok (.invokevirtual idx, 3)) (M : ba_MV T own idx n ci y bytes maxL ret) (S : ba_Sh T k (.inl (ci, fl))) (K : ∀ l, ba_CI T w l y bytes maxL ret rm' (.ref (w.1 k) :: As) σ (v, σ')) (hst : st0 = As.reverse ++ .ref (w.1 k) :: st ∧ As.length = n) (hfit : rm'.cells = 0 ∧ rm'.slots = 0 ∧ rm'.frames + 1 ≤ rm.frames ∧ 8 + (maxL + 11) + rm'.locals ≤ rm.locals) (hcat : (st.map fun v => v.category).sum ≤ 8) (g : ba_G T w nL X σ' (pc + 3) lv (.int v :: st)) : ba_G T w nL X σ pc lv st0 := by
  obtain ⟨p, l, e, R, s, m, args, below, meth, c, Q⟩ := X
  obtain ⟨hj, hx, hb, hml, hown, hts, hK, hSC, hNW, hR⟩ := V
  obtain ⟨f1, f2, f3, f4⟩ := hfit
  subst hR
  intro H locs ls hP hS hl
  obtain ⟨⟨m1, m2, m3, m4⟩, m5, m6, F, N, m7⟩ := M
  obtain ⟨hst, hn⟩ := hst
  subst hst
  have he : (ba_ws T w σ)[k]? = some (w.1 k, .inr (ci, ba_fl w.1 (σ.1 k) 0 fl)) := by rw [ba_ws_at S.1, S.2]; rfl
  have hrecv : ∃ cellB : Cell, H[w.1 k]? = some cellB ∧ cellB.vm.isStatics = false ∧ s.vm.findClass y.cls = some cellB.cls := va_recv hK hP (ci := ci) (q0 := k) m7 he
  refine va_calli (va_runV (C := y.cls) (As := As) (rest := st) (Ts := ba_tb) ⟨hx, hb, hml, hown, hts⟩ (K l) ⟨callB_of n hts (ba_good (fun _ h => h) m1) rfl f1 f2 (hts _ m2) (hts _ m3) m4 ⟨f3, f4⟩, hts _ m5, hts _ m6⟩ ⟨ba_blind, hrecv, fun U hU hW => ⟨rfl, ba_pre hP hS hK hSC hNW hU hW⟩⟩ rfl hn hl.1 rfl (lv_room hcat) d ⟨Nat.zero_le _, Nat.zero_le _⟩) hS (fun q _ h => h) (fun q h => h) (fun r u t H1 locs1 ht hvm hw hB hz1 hk1 hS1 => ?_)
  cases hw
  exact g H1 locs1 ls (by rw [← ht]; exact hB) hS1 hl

theorem ba_callSI {idx n maxL : Nat} {y : MethodName} {bytes : ByteArray} {ret : Option FieldType} {rm' : Room} {As : List Value} {σ' : ba_St} {st0 : List Value} {v : Int32} (V : ba_V T w nL X cc own rm) (d : decode cc pc = .ok (.invokestatic idx, 3)) (M : ba_MS own idx n y bytes maxL ret) (K : ∀ l, ba_CI T w l y bytes maxL ret rm' As σ (v, σ')) (hst : st0 = As.reverse ++ st ∧ As.length = n) (hfit : rm'.cells = 0 ∧ rm'.slots = 0 ∧ rm'.frames + 1 ≤ rm.frames ∧ 8 + (maxL + 11) + rm'.locals ≤ rm.locals) (hcat : (st.map fun v => v.category).sum ≤ 8) (g : ba_G T w nL X σ' (pc + 3) lv (.int v :: st)) : ba_G T w nL X σ pc lv st0 := by
  obtain ⟨p, l, e, R, s, m, args, below, meth, c, Q⟩ := X
  obtain ⟨hj, hx, hb, hml, hown, hts, hK, hSC, hNW, hR⟩ := V
  obtain ⟨f1, f2, f3, f4⟩ := hfit
  subst hR
  intro H locs ls hP hS hl
  obtain ⟨⟨m1, m2, m3, m4⟩, m5⟩ := M
  obtain ⟨hst, hn⟩ := hst
  subst hst
  refine va_calli (va_runS (As := As) (rest := st) (Ts := ba_tb) ⟨hx, hb, hml, hown, hts⟩ (K l) ⟨callB_of n hts (ba_good (fun _ h => h) m1) rfl f1 f2 (hts _ m2) (hts _ m3) m4 ⟨f3, f4⟩, hts _ m5⟩ ⟨ba_blind, fun U hU hW => ⟨rfl, ba_pre hP hS hK hSC hNW hU hW⟩⟩ rfl hn hl.1 rfl (lv_room hcat) d ⟨Nat.zero_le _, Nat.zero_le _⟩) hS (fun q _ h => h) (fun q h => h) (fun r u t H1 locs1 ht hvm hw hB hz1 hk1 hS1 => ?_)
  cases hw
  exact g H1 locs1 ls (by rw [← ht]; exact hB) hS1 hl

theorem ba_callNI {idx n maxL : Nat} {y : MethodName} {bytes : ByteArray} {ret : Option FieldType} {rm' : Room} {As : List Value} {σ' : ba_St} {st0 : List Value} {v : Int32} {host : String} (V : ba_V T w nL X cc own rm) (d : decode cc pc = .ok (.invokestatic idx, 3)) (M : ba_MN T own idx n y bytes maxL ret host) (K : ∀ l, ba_CI T w l y bytes maxL ret rm' As σ (v, σ')) (hst : st0 = As.reverse ++ st ∧ As.length = n) (hfit : rm'.cells = 0 ∧ rm'.slots = 0 ∧ rm'.frames + 1 ≤ rm.frames ∧ 8 + (maxL + 11) + rm'.locals ≤ rm.locals) (hcat : (st.map fun v => v.category).sum ≤ 8) (g : ba_G T w nL X σ' (pc + 3) lv (.int v :: st)) : ba_G T w nL X σ pc lv st0 := by
  obtain ⟨p, l, e, R, s, m, args, below, meth, c, Q⟩ := X
  obtain ⟨hj, hx, hb, hml, hown, hts, hK, hSC, hNW, hR⟩ := V
  obtain ⟨f1, f2, f3, f4⟩ := hfit
  subst hR
  intro H locs ls hP hS hl
  obtain ⟨⟨m1, m2, m4⟩, m5, m6⟩ := M
  obtain ⟨hst, hn⟩ := hst
  subst hst
  refine va_calli (va_runSN (As := As) (rest := st) (Ts := ba_tb) ⟨hx, hb, hml, hown, hts⟩ (K l) ⟨va_cnB n hts (ba_good (fun _ h => h) m1) rfl f1 f2 (hNW _ m6).2 (hts _ m2) m4 ⟨f3, f4⟩, hts _ m5, trivial⟩ ⟨ba_blind, fun U hU hW => ⟨rfl, ba_pre hP hS hK hSC hNW hU hW⟩⟩ rfl hn hl.1 rfl (lv_room hcat) d ⟨Nat.zero_le _, Nat.zero_le _⟩) hS (fun q _ h => h) (fun q h => h) (fun r u t H1 locs1 ht hvm hw hB hz1 hk1 hS1 => ?_)
  cases hw
  exact g H1 locs1 ls (by rw [← ht]; exact hB) hS1 hl

theorem ba_callVL {idx n maxL : Nat} {y : MethodName} {bytes : ByteArray} {ret : Option FieldType} {rm' : Room} {As : List Value} {σ' : ba_St} {st0 : List Value} {v : Int64} {ci k : Nat} {fl : List (Option Nat)} (V : ba_V T w nL X cc own rm) (d : decode cc pc = .ok (.invokevirtual idx, 3)) (M : ba_MV T own idx n ci y bytes maxL ret) (S : ba_Sh T k (.inl (ci, fl))) (K : ∀ l, ba_CL T w l y bytes maxL ret rm' (.ref (w.1 k) :: As) σ (v, σ')) (hst : st0 = As.reverse ++ .ref (w.1 k) :: st ∧ As.length = n) (hfit : rm'.cells = 0 ∧ rm'.slots = 0 ∧ rm'.frames + 1 ≤ rm.frames ∧ 8 + (maxL + 11) + rm'.locals ≤ rm.locals) (hcat : (st.map fun v => v.category).sum ≤ 8) (g : ba_G T w nL X σ' (pc + 3) lv (.long v :: st)) : ba_G T w nL X σ pc lv st0 := by
  obtain ⟨p, l, e, R, s, m, args, below, meth, c, Q⟩ := X
  obtain ⟨hj, hx, hb, hml, hown, hts, hK, hSC, hNW, hR⟩ := V
  obtain ⟨f1, f2, f3, f4⟩ := hfit
  subst hR
  intro H locs ls hP hS hl
  obtain ⟨⟨m1, m2, m3, m4⟩, m5, m6, F, N, m7⟩ := M
  obtain ⟨hst, hn⟩ := hst
  subst hst
  have he : (ba_ws T w σ)[k]? = some (w.1 k, .inr (ci, ba_fl w.1 (σ.1 k) 0 fl)) := by rw [ba_ws_at S.1, S.2]; rfl
  have hrecv : ∃ cellB : Cell, H[w.1 k]? = some cellB ∧ cellB.vm.isStatics = false ∧ s.vm.findClass y.cls = some cellB.cls := va_recv hK hP (ci := ci) (q0 := k) m7 he
  refine va_calll (va_runV (C := y.cls) (As := As) (rest := st) (Ts := ba_tb) ⟨hx, hb, hml, hown, hts⟩ (K l) ⟨callB_of n hts (ba_good (fun _ h => h) m1) rfl f1 f2 (hts _ m2) (hts _ m3) m4 ⟨f3, f4⟩, hts _ m5, hts _ m6⟩ ⟨ba_blind, hrecv, fun U hU hW => ⟨rfl, ba_pre hP hS hK hSC hNW hU hW⟩⟩ rfl hn hl.1 rfl (lv_room hcat) d ⟨Nat.zero_le _, Nat.zero_le _⟩) hS (fun q _ h => h) (fun q h => h) (fun r u t H1 locs1 ht hvm hw hB hz1 hk1 hS1 => ?_)
  cases hw
  exact g H1 locs1 ls (by rw [← ht]; exact hB) hS1 hl

theorem ba_callSL {idx n maxL : Nat} {y : MethodName} {bytes : ByteArray} {ret : Option FieldType} {rm' : Room} {As : List Value} {σ' : ba_St} {st0 : List Value} {v : Int64} (V : ba_V T w nL X cc own rm) (d : decode cc pc = .ok (.invokestatic idx, 3)) (M : ba_MS own idx n y bytes maxL ret) (K : ∀ l, ba_CL T w l y bytes maxL ret rm' As σ (v, σ')) (hst : st0 = As.reverse ++ st ∧ As.length = n) (hfit : rm'.cells = 0 ∧ rm'.slots = 0 ∧ rm'.frames + 1 ≤ rm.frames ∧ 8 + (maxL + 11) + rm'.locals ≤ rm.locals) (hcat : (st.map fun v => v.category).sum ≤ 8) (g : ba_G T w nL X σ' (pc + 3) lv (.long v :: st)) : ba_G T w nL X σ pc lv st0 := by
  obtain ⟨p, l, e, R, s, m, args, below, meth, c, Q⟩ := X
  obtain ⟨hj, hx, hb, hml, hown, hts, hK, hSC, hNW, hR⟩ := V
  obtain ⟨f1, f2, f3, f4⟩ := hfit
  subst hR
  intro H locs ls hP hS hl
  obtain ⟨⟨m1, m2, m3, m4⟩, m5⟩ := M
  obtain ⟨hst, hn⟩ := hst
  subst hst
  refine va_calll (va_runS (As := As) (rest := st) (Ts := ba_tb) ⟨hx, hb, hml, hown, hts⟩ (K l) ⟨callB_of n hts (ba_good (fun _ h => h) m1) rfl f1 f2 (hts _ m2) (hts _ m3) m4 ⟨f3, f4⟩, hts _ m5⟩ ⟨ba_blind, fun U hU hW => ⟨rfl, ba_pre hP hS hK hSC hNW hU hW⟩⟩ rfl hn hl.1 rfl (lv_room hcat) d ⟨Nat.zero_le _, Nat.zero_le _⟩) hS (fun q _ h => h) (fun q h => h) (fun r u t H1 locs1 ht hvm hw hB hz1 hk1 hS1 => ?_)
  cases hw
  exact g H1 locs1 ls (by rw [← ht]; exact hB) hS1 hl

theorem ba_callVV {idx n maxL : Nat} {y : MethodName} {bytes : ByteArray} {ret : Option FieldType} {rm' : Room} {As : List Value} {σ' : ba_St} {st0 : List Value} {ci k : Nat} {fl : List (Option Nat)} (V : ba_V T w nL X cc own rm) (d : decode cc pc = .ok (.invokevirtual idx, 3)) (M : ba_MV T own idx n ci y bytes maxL ret) (S : ba_Sh T k (.inl (ci, fl))) (K : ∀ l, ba_CV T w l y bytes maxL ret rm' (.ref (w.1 k) :: As) σ σ') (hst : st0 = As.reverse ++ .ref (w.1 k) :: st ∧ As.length = n) (hfit : rm'.cells = 0 ∧ rm'.slots = 0 ∧ rm'.frames + 1 ≤ rm.frames ∧ 8 + (maxL + 11) + rm'.locals ≤ rm.locals) (hcat : (st.map fun v => v.category).sum ≤ 8) (g : ba_G T w nL X σ' (pc + 3) lv (st)) : ba_G T w nL X σ pc lv st0 := by
  obtain ⟨p, l, e, R, s, m, args, below, meth, c, Q⟩ := X
  obtain ⟨hj, hx, hb, hml, hown, hts, hK, hSC, hNW, hR⟩ := V
  obtain ⟨f1, f2, f3, f4⟩ := hfit
  subst hR
  intro H locs ls hP hS hl
  obtain ⟨⟨m1, m2, m3, m4⟩, m5, m6, F, N, m7⟩ := M
  obtain ⟨hst, hn⟩ := hst
  subst hst
  have he : (ba_ws T w σ)[k]? = some (w.1 k, .inr (ci, ba_fl w.1 (σ.1 k) 0 fl)) := by rw [ba_ws_at S.1, S.2]; rfl
  have hrecv : ∃ cellB : Cell, H[w.1 k]? = some cellB ∧ cellB.vm.isStatics = false ∧ s.vm.findClass y.cls = some cellB.cls := va_recv hK hP (ci := ci) (q0 := k) m7 he
  refine va_callv (va_runV (C := y.cls) (As := As) (rest := st) (Ts := ba_tb) ⟨hx, hb, hml, hown, hts⟩ (K l) ⟨callB_of n hts (ba_good (fun _ h => h) m1) rfl f1 f2 (hts _ m2) (hts _ m3) m4 ⟨f3, f4⟩, hts _ m5, hts _ m6⟩ ⟨ba_blind, hrecv, fun U hU hW => ⟨rfl, ba_pre hP hS hK hSC hNW hU hW⟩⟩ rfl hn hl.1 rfl (lv_room hcat) d ⟨Nat.zero_le _, Nat.zero_le _⟩) hS (fun q _ h => h) (fun q h => h) (fun u t H1 locs1 ht hvm hw hB hz1 hk1 hS1 => ?_)
  cases hw
  exact g H1 locs1 ls (by rw [← ht]; exact hB) hS1 hl

theorem ba_callSV {idx n maxL : Nat} {y : MethodName} {bytes : ByteArray} {ret : Option FieldType} {rm' : Room} {As : List Value} {σ' : ba_St} {st0 : List Value} (V : ba_V T w nL X cc own rm) (d : decode cc pc = .ok (.invokestatic idx, 3)) (M : ba_MS own idx n y bytes maxL ret) (K : ∀ l, ba_CV T w l y bytes maxL ret rm' As σ σ') (hst : st0 = As.reverse ++ st ∧ As.length = n) (hfit : rm'.cells = 0 ∧ rm'.slots = 0 ∧ rm'.frames + 1 ≤ rm.frames ∧ 8 + (maxL + 11) + rm'.locals ≤ rm.locals) (hcat : (st.map fun v => v.category).sum ≤ 8) (g : ba_G T w nL X σ' (pc + 3) lv (st)) : ba_G T w nL X σ pc lv st0 := by
  obtain ⟨p, l, e, R, s, m, args, below, meth, c, Q⟩ := X
  obtain ⟨hj, hx, hb, hml, hown, hts, hK, hSC, hNW, hR⟩ := V
  obtain ⟨f1, f2, f3, f4⟩ := hfit
  subst hR
  intro H locs ls hP hS hl
  obtain ⟨⟨m1, m2, m3, m4⟩, m5⟩ := M
  obtain ⟨hst, hn⟩ := hst
  subst hst
  refine va_callv (va_runS (As := As) (rest := st) (Ts := ba_tb) ⟨hx, hb, hml, hown, hts⟩ (K l) ⟨callB_of n hts (ba_good (fun _ h => h) m1) rfl f1 f2 (hts _ m2) (hts _ m3) m4 ⟨f3, f4⟩, hts _ m5⟩ ⟨ba_blind, fun U hU hW => ⟨rfl, ba_pre hP hS hK hSC hNW hU hW⟩⟩ rfl hn hl.1 rfl (lv_room hcat) d ⟨Nat.zero_le _, Nat.zero_le _⟩) hS (fun q _ h => h) (fun q h => h) (fun u t H1 locs1 ht hvm hw hB hz1 hk1 hS1 => ?_)
  cases hw
  exact g H1 locs1 ls (by rw [← ht]; exact hB) hS1 hl

end BA

theorem ba_metI {T : ba_T} {w : ba_W} {y : MethodName} {bytes : ByteArray} {nL : Nat} {rm : Room} {av : List Value} {σ : ba_St} {r : Int32 × ba_St} {lv : List (Nat × Value)} (l : Launch) (hj : ba_inj T w) (hy : plainName y.cls = true) (hlv : (lg_sl av).length ≤ nL ∧ lv_args 0 av = lv) (body : ∀ X, ba_V T w nL X bytes y.cls rm → (∀ (pc : Nat) (lv : List (Nat × Value)) (v : Int32) (s : ba_St), decode bytes pc = .ok (.ireturn, 1) → (v, s) = r → ba_G T w nL X s pc lv [.int v]) → ba_G T w nL X σ 0 lv []) : ba_CI T w l y bytes nL (some .int) rm av σ r := by
  refine Met.ofW (cc := bytes) (maxL := nL) (ret := (some .int)) hy rfl ?_
  intro p e s0 m args below meth c s₁ B hml hv
  obtain ⟨rfl, hP, hK, hSC, hNW⟩ := hv
  have hx := B.exec
  have hb := B.bytes
  have hr := B.returns
  have hts := atoms_spec (ws := .code y bytes nL (some .int) :: ba_tb) B.pre
  have hown : s0.vm.findClass y.cls = some m.cls := findClass_of_methodNamed B.named
  have hlocks := B.notSynchronized
  have hl := lv_entry av (n := nL) hlv.1
  rw [hlv.2] at hl
  have G := body (p, l, e, rm, s0, m, av.toArray, below, meth, c, MQ below (va_Qi (fun v u => (v, u) = r) (ba_Pst T w) (ba_A T w)) av.toArray s0 0 0 (ba_A T w)) ⟨hj, hx, hb, hml, hown, fun w hw => hts w (List.mem_cons_of_mem _ hw), hK, hSC, hNW, rfl⟩ ?_
  · rw [lg_entry_eq]
    exact G s0.heap [] _ hP va_S.rf hl
  · intro pc lv v s d e H locs ls hP hS hl
    refine W.iret (v := v) hx hb hr (fun t ht hW => ⟨⟨v, s, rfl, e, ?_⟩, hS.F ht⟩) hS.2.2 d
    show va_P _ _ _ t.heap
    rw [ht]
    exact hP

theorem ba_metZ {T : ba_T} {w : ba_W} {y : MethodName} {bytes : ByteArray} {nL : Nat} {rm : Room} {av : List Value} {σ : ba_St} {r : Int32 × ba_St} {lv : List (Nat × Value)} (l : Launch) (hj : ba_inj T w) (hy : plainName y.cls = true) (hlv : (lg_sl av).length ≤ nL ∧ lv_args 0 av = lv) (body : ∀ X, ba_V T w nL X bytes y.cls rm → (∀ (pc : Nat) (lv : List (Nat × Value)) (v : Int32) (s : ba_St), decode bytes pc = .ok (.ireturn, 1) → v = 0 ∨ v = 1 → (v, s) = r → ba_G T w nL X s pc lv [.int v]) → ba_G T w nL X σ 0 lv []) : ba_CI T w l y bytes nL (some .boolean) rm av σ r := by
  refine Met.ofW (cc := bytes) (maxL := nL) (ret := (some .boolean)) hy rfl ?_
  intro p e s0 m args below meth c s₁ B hml hv
  obtain ⟨rfl, hP, hK, hSC, hNW⟩ := hv
  have hx := B.exec
  have hb := B.bytes
  have hr := B.returns
  have hts := atoms_spec (ws := .code y bytes nL (some .boolean) :: ba_tb) B.pre
  have hown : s0.vm.findClass y.cls = some m.cls := findClass_of_methodNamed B.named
  have hlocks := B.notSynchronized
  have hl := lv_entry av (n := nL) hlv.1
  rw [hlv.2] at hl
  have G := body (p, l, e, rm, s0, m, av.toArray, below, meth, c, MQ below (va_Qi (fun v u => (v, u) = r) (ba_Pst T w) (ba_A T w)) av.toArray s0 0 0 (ba_A T w)) ⟨hj, hx, hb, hml, hown, fun w hw => hts w (List.mem_cons_of_mem _ hw), hK, hSC, hNW, rfl⟩ ?_
  · rw [lg_entry_eq]
    exact G s0.heap [] _ hP va_S.rf hl
  · intro pc lv v s d hz e H locs ls hP hS hl
    refine W.zret (v := v) hx hb hr (ba_nz hz).1 (fun t ht hW => ⟨⟨v, s, rfl, e, ?_⟩, hS.F ht⟩) hS.2.2 d
    show va_P _ _ _ t.heap
    rw [ht]
    exact hP

theorem ba_metL {T : ba_T} {w : ba_W} {y : MethodName} {bytes : ByteArray} {nL : Nat} {rm : Room} {av : List Value} {σ : ba_St} {r : Int64 × ba_St} {lv : List (Nat × Value)} (l : Launch) (hj : ba_inj T w) (hy : plainName y.cls = true) (hlv : (lg_sl av).length ≤ nL ∧ lv_args 0 av = lv) (body : ∀ X, ba_V T w nL X bytes y.cls rm → (∀ (pc : Nat) (lv : List (Nat × Value)) (v : Int64) (s : ba_St), decode bytes pc = .ok (.lreturn, 1) → (v, s) = r → ba_G T w nL X s pc lv [.long v]) → ba_G T w nL X σ 0 lv []) : ba_CL T w l y bytes nL (some .long) rm av σ r := by
  refine Met.ofW (cc := bytes) (maxL := nL) (ret := (some .long)) hy rfl ?_
  intro p e s0 m args below meth c s₁ B hml hv
  obtain ⟨rfl, hP, hK, hSC, hNW⟩ := hv
  have hx := B.exec
  have hb := B.bytes
  have hr := B.returns
  have hts := atoms_spec (ws := .code y bytes nL (some .long) :: ba_tb) B.pre
  have hown : s0.vm.findClass y.cls = some m.cls := findClass_of_methodNamed B.named
  have hlocks := B.notSynchronized
  have hl := lv_entry av (n := nL) hlv.1
  rw [hlv.2] at hl
  have G := body (p, l, e, rm, s0, m, av.toArray, below, meth, c, MQ below (va_Ql (fun v u => (v, u) = r) (ba_Pst T w) (ba_A T w)) av.toArray s0 0 0 (ba_A T w)) ⟨hj, hx, hb, hml, hown, fun w hw => hts w (List.mem_cons_of_mem _ hw), hK, hSC, hNW, rfl⟩ ?_
  · rw [lg_entry_eq]
    exact G s0.heap [] _ hP va_S.rf hl
  · intro pc lv v s d e H locs ls hP hS hl
    refine W.lret (v := v) hx hb hr (fun t ht hW => ⟨⟨v, s, rfl, e, ?_⟩, hS.F ht⟩) hS.2.2 d
    show va_P _ _ _ t.heap
    rw [ht]
    exact hP

theorem ba_metV {T : ba_T} {w : ba_W} {y : MethodName} {bytes : ByteArray} {nL : Nat} {rm : Room} {av : List Value} {σ : ba_St} {r : ba_St} {lv : List (Nat × Value)} (l : Launch) (hj : ba_inj T w) (hy : plainName y.cls = true) (hlv : (lg_sl av).length ≤ nL ∧ lv_args 0 av = lv) (body : ∀ X, ba_V T w nL X bytes y.cls rm → (∀ (pc : Nat) (lv : List (Nat × Value)) (s : ba_St), decode bytes pc = .ok (.return_, 1) → s = r → ba_G T w nL X s pc lv []) → ba_G T w nL X σ 0 lv []) : ba_CV T w l y bytes nL none rm av σ r := by
  refine Met.ofW (cc := bytes) (maxL := nL) (ret := none) hy rfl ?_
  intro p e s0 m args below meth c s₁ B hml hv
  obtain ⟨rfl, hP, hK, hSC, hNW⟩ := hv
  have hx := B.exec
  have hb := B.bytes
  have hr := B.returns
  have hts := atoms_spec (ws := .code y bytes nL none :: ba_tb) B.pre
  have hown : s0.vm.findClass y.cls = some m.cls := findClass_of_methodNamed B.named
  have hlocks := B.notSynchronized
  have hl := lv_entry av (n := nL) hlv.1
  rw [hlv.2] at hl
  have G := body (p, l, e, rm, s0, m, av.toArray, below, meth, c, MQ below (va_Qv (fun u => u = r) (ba_Pst T w) (ba_A T w)) av.toArray s0 0 0 (ba_A T w)) ⟨hj, hx, hb, hml, hown, fun w hw => hts w (List.mem_cons_of_mem _ hw), hK, hSC, hNW, rfl⟩ ?_
  · rw [lg_entry_eq]
    exact G s0.heap [] _ hP va_S.rf hl
  · intro pc lv s d e H locs ls hP hS hl
    refine W.vret hx hb hr (fun t ht hW => ⟨⟨s, rfl, e, ?_⟩, hS.F ht⟩) hS.2.2 d
    show va_P _ _ _ t.heap
    rw [ht]
    exact hP

