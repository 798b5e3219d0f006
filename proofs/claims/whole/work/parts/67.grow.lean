/-! ===== a world that grows: the constructors ===== -/
def ba_tF : ba_T := (fun _ => .inr (.inl 72), 1, ba_cl, ba_at, [], [])
set_option maxHeartbeats 4000000 in
set_option maxRecDepth 100000 in
theorem yf_fill_l5 {w : ba_W} {X : ba_X} (V : ba_V ba_tF w 4 X cJ7_fill_53178 RJ7 rm_j_fill) {a0 : Nat} {a0n : Nat} (h0 : ba_Sh ba_tF a0 (.inr (.inl a0n)) ∧ ba_ok ba_tF) {z1 : Int32} {z3 : Int32} {o : ba_St} (EX : ∀ (s : ba_St) , s = o → ba_G ba_tF w 4 X s 20 [] []) : ∀ (n : Nat) (s : ba_St) (z2 : Int32), ba_fix (xj_fill_l5 a0 a0n z1 z3) n (s, z2) = some o → ba_G ba_tF w 4 X s 5 [(0, .ref (w.1 a0)), (1, .int z1), (2, .int z2), (3, .int z3)] [] := by
  intro n s z2 h
  refine ba_loop (P := fun a => ba_G ba_tF w 4 X a.1 5 [(0, .ref (w.1 a0)), (1, .int z1), (2, .int a.2), (3, .int z3)] []) ?_ n (s, z2) h
  intro k hk0 a h
  obtain ⟨s, z2⟩ := a
  have hk : ∀ (s : ba_St) (z2 : Int32), k (s, z2) = some o → ba_G ba_tF w 4 X s 5 [(0, .ref (w.1 a0)), (1, .int z1), (2, .int z2), (3, .int z3)] [] := fun s z2 e => hk0 (s, z2) e
  unfold xj_fill_l5 at h
  try dsimp only at h ⊢
  refine ba_iload_n V dJ7_fill_53178_5 2 rfl ?_
  refine ba_iload_n V dJ7_fill_53178_6 3 rfl ?_
  refine ba_icmp_ge V dJ7_fill_53178_7 rfl h (fun h => ?_) (fun h => ?_)
  · exact ba_sub [] rfl (EX _ (Option.some.inj h))
  · refine ba_aload_n V dJ7_fill_53178_10 0 rfl ?_
    refine ba_iload_n V dJ7_fill_53178_11 2 rfl ?_
    refine ba_iload_n V dJ7_fill_53178_12 1 rfl ?_
    refine ba_iast V dJ7_fill_53178_13 h0 h (fun s1235 h => ?_)
    refine ba_iinc V dJ7_fill_53178_14 2 rfl ba_c1 (by decide) h (fun x1236 h => ⟨[(2, .int x1236), (0, .ref (w.1 a0)), (1, .int z1), (3, .int z3)], rfl, ?_⟩)
    refine ba_goto V dJ7_fill_53178_17 rfl ?_
    exact ba_sub [1, 2, 0, 3] rfl (hk _ _ h)
set_option maxHeartbeats 4000000 in
set_option maxRecDepth 100000 in
theorem yf_fill {w : ba_W} (hj : ba_inj ba_tF w) (l : Launch) {s : ba_St} {a0 : Nat} {a0n : Nat} {a1 : Int32} (h0 : ba_Sh ba_tF a0 (.inr (.inl a0n)) ∧ ba_ok ba_tF) {o : ba_St} (h : xj_fill s a0 a0n a1 = some o) : ba_CV ba_tF w l yJ7_fill_53178 cJ7_fill_53178 4 none rm_j_fill [.ref (w.1 a0), .int a1] s o := by
  refine ba_metV (lv := [(0, .ref (w.1 a0)), (1, .int a1)]) l hj (by decide +kernel) ⟨Nat.le_of_ble_eq_true rfl, rfl⟩ ?_
  intro X V RT
  unfold xj_fill at h
  refine ba_iconst V dJ7_fill_53178_0 ba_c0 ?_
  refine ba_istore_n (lv' := [(2, .int 0), (0, .ref (w.1 a0)), (1, .int a1)]) V dJ7_fill_53178_1 (by decide) rfl ?_
  refine ba_aload_n V dJ7_fill_53178_2 1 rfl ?_
  refine ba_alen V dJ7_fill_53178_3 h0 ?_
  refine ba_letI h (fun x1234 h => ?_)
  refine ba_istore_n (lv' := [(3, .int x1234), (2, .int 0), (0, .ref (w.1 a0)), (1, .int a1)]) V dJ7_fill_53178_4 (by decide) rfl ?_
  obtain ⟨o, ho, h⟩ := ba_bnd_some h
  refine ba_sub [2, 3, 1, 0] rfl (yf_fill_l5 V h0 (o := o) (fun s1237 e => ?_) 1000 s 0 ho)
  subst e
  try dsimp only at h
  exact RT _ _ _ dJ7_fill_53178_20 (Option.some.inj h)
theorem gw_Prot {D : va_G} {cl : List vw_C} {ws : va_W} {x : Nat × va_E} {H : Heap} (h : va_P D cl (ws ++ [x]) H) : va_P D cl (x :: ws) H := by
  refine h.by (fun k => if k = 0 then ws.length else k - 1) (fun k q hk => ?_)
  cases k with
  | zero =>
    rw [List.getElem?_cons_zero] at hk
    rw [if_pos rfl, List.getElem?_append_right (Nat.le_refl _), Nat.sub_self]; exact hk
  | succ k =>
    rw [List.getElem?_cons_succ] at hk
    have hl := (List.getElem?_eq_some_iff.mp hk).1
    rw [if_neg (by omega), show k + 1 - 1 = k by omega, List.getElem?_append_left hl]; exact hk
theorem gw_Drot {A : Nat → Prop} {ws : va_W} {x : Nat × va_E} (h : va_D A (ws ++ [x])) : va_D A (x :: ws) := by
  refine h.by (fun k => if k = 0 then ws.length else k - 1) (fun k q hk => ?_) (fun i j hi hj e => ?_)
  · cases k with
    | zero =>
      rw [List.getElem?_cons_zero] at hk
      rw [if_pos rfl, List.getElem?_append_right (Nat.le_refl _), Nat.sub_self]; exact hk
    | succ k =>
      rw [List.getElem?_cons_succ] at hk
      have hl := (List.getElem?_eq_some_iff.mp hk).1
      rw [if_neg (by omega), show k + 1 - 1 = k by omega, List.getElem?_append_left hl]; exact hk
  · simp only [List.length_cons] at hi hj
    by_cases h1 : i = 0
    · by_cases h2 : j = 0
      · omega
      · rw [if_pos h1, if_neg h2] at e; omega
    · by_cases h2 : j = 0
      · rw [if_neg h1, if_pos h2] at e; omega
      · rw [if_neg h1, if_neg h2] at e; omega
def gw_tys (cA : Nat → ClassId) : List (ClassId × FieldType) := [(cA 0, .int), (cA 1, .long), (cA 2, .object "Bagatelle$Text"), (cA 3, .object "Bagatelle$Sheet")]
/-- what the constructors need of the start beside the cells -/
def gw_St (h ta : Nat) (U : State) (H : Heap) : Prop := va_Z "Bagatelle" "TEXT_LIMITS" "[I" (.ref ta) (fun q => h ≤ q) U H ∧ va_T .int ta 3 (fun j => .int (([47, 9, 35] : List Int32).getD j 0)) (fun q => h ≤ q) U H ∧ va_AO "Bagatelle$Text" U ∧ va_AO "Bagatelle$Sheet" U ∧ va_Nw (Cond.methodLinkNest RX0 42 yX3_init "Bagatelle") U ∧ va_Nw (Cond.methodLinkNest RX5 40 yX3_init "Bagatelle") U ∧ va_Nw (Cond.methodLinkNest RX5 96 yX2_init "Bagatelle") U
def gw_Pre (D : va_G) (cA : Nat → ClassId) (h ta : Nat) (ws : va_W) (U : State) : Prop := h ≤ U.heap.size ∧ va_P D ba_cl ws U.heap ∧ va_D (fun q => h ≤ q) ws ∧ va_K D ba_cl (gw_tys cA) U ∧ gw_St h ta U U.heap
def gw_G (D : va_G) (h nL : Nat) (X : ba_X) (ws : va_W) (cells slots pc : Nat) (lv : List (Nat × Value)) (st : List Value) : Prop := match X with
  | (p, l, e, R, s, m, args, below, meth, c, Q) => ∀ (H : Heap) (locs : List Loc) (ls : Array Slot), va_P D ba_cl ws H → va_D (fun q => h ≤ q) ws → va_S (fun q => h ≤ q) s.heap H locs → lv_has ls nL lv → W p l e R s m args below meth c H locs cells slots Q (F0 m pc ls st)
def gw_V (D : va_G) (cA : Nat → ClassId) (h ta nL : Nat) (X : ba_X) (cc : ByteArray) (own : String) (rm : Room) : Prop := match X with
  | (p, l, e, R, s, m, args, below, meth, c, Q) => h ≤ s.heap.size ∧ p.tables.exec = Jvm.exec ∧ c.code = cc ∧ c.maxLocals = nL ∧ s.vm.findClass own = some m.cls ∧ (∀ w ∈ ba_tb, w.before args s = true) ∧ va_K D ba_cl (gw_tys cA) s ∧ gw_St h ta s s.heap ∧ meth.name = "<init>" ∧ R = rm
/-- a constructor's contract: it takes the cells w0 to w1, and leaves the rest as it is -/
def gw_C (D : va_G) (cA : Nat → ClassId) (h ta : Nat) (l : Launch) (y : MethodName) (bytes : ByteArray) (maxL : Nat) (rm : Room) (av : List Value) (w0 : va_W) (w1 : (Nat → Nat) → va_W) : Prop := ∀ R : va_W, Met l y (.code y bytes maxL none :: ba_tb) rm (va_Pc av (gw_Pre D cA h ta (w0 ++ R))) (va_Qv (fun _ : Nat → Nat => True) (fun u t => va_P D ba_cl (w1 u ++ R) t.heap ∧ va_D (fun q => h ≤ q) (w1 u ++ R)) (fun q => h ≤ q)) rm.cells rm.slots (fun q => h ≤ q)
theorem gw_St.go {h ta : Nat} {s U : State} {H : Heap} {locs : List Loc} (q : gw_St h ta s s.heap) (hS : va_S (fun q => h ≤ q) s.heap H locs) (hW : s.WarmedH U.vm) : gw_St h ta U H := by
  obtain ⟨q1, q2, q3, q4, q5, q6, q7⟩ := q
  exact ⟨(q1.kept hS.2.1).moved hW.alike, (q2.kept hS.2.1).moved hW.alike, q3.moved hW.alike, q4.moved hW.alike, va_Nw.warmM hW q5, va_Nw.warmM hW q6, va_Nw.warmM hW q7⟩
theorem gw_blind {D : va_G} {cA : Nat → ClassId} {h ta : Nat} {ws : va_W} {av : List Value} : FrameBlind (va_Pc av (gw_Pre D cA h ta ws)) := by
  intro a U g mk q
  obtain ⟨q0, qz, qP, qD, qK, q1, q2, q3, q4, q5, q6, q7⟩ := q
  have hv : U.vm.Alike (U.calling g mk a).vm := Vm.Alike.refl U.vm
  exact ⟨q0, qz, qP, qD, va_K.moved hv qK, q1.moved hv, q2.moved hv, q3.moved hv, q4.moved hv, va_Nw.same rfl (u := U) rfl q5, va_Nw.same rfl (u := U) rfl q6, va_Nw.same rfl (u := U) rfl q7⟩
section GW
variable {D : va_G} {cA : Nat → ClassId} {h ta nL : Nat} {X : ba_X} {cc : ByteArray} {own : String} {rm : Room} {ws : va_W} {cells slots pc : Nat} {lv : List (Nat × Value)} {st : List Value}
theorem gw_aload {i : Fin 4} {x : Nat} (V : gw_V D cA h ta nL X cc own rm) (d : decode cc pc = .ok (.aload_n i, 1)) (k : Nat) (hk : lv[k]? = some ((i : Nat), .ref x)) (g : gw_G D h nL X ws cells slots (pc + 1) lv (.ref x :: st)) : gw_G D h nL X ws cells slots pc lv st := by
  obtain ⟨p, l, e, R, s, m, args, below, meth, c, Q⟩ := X
  obtain ⟨hz, hx, hb, hml, hown, hts, hK, hSt, hin, hR⟩ := V
  intro H locs ls hP hD hS hl
  exact lv_aload_n hx hb d rfl (lv_at hl k hk) (g H locs ls hP hD hS hl)
theorem gw_iload {i : Fin 4} {x : Int32} (V : gw_V D cA h ta nL X cc own rm) (d : decode cc pc = .ok (.iload_n i, 1)) (k : Nat) (hk : lv[k]? = some ((i : Nat), .int x)) (g : gw_G D h nL X ws cells slots (pc + 1) lv (.int x :: st)) : gw_G D h nL X ws cells slots pc lv st := by
  obtain ⟨p, l, e, R, s, m, args, below, meth, c, Q⟩ := X
  obtain ⟨hz, hx, hb, hml, hown, hts, hK, hSt, hin, hR⟩ := V
  intro H locs ls hP hD hS hl
  exact lv_iload_n hx hb d rfl (lv_at hl k hk) (g H locs ls hP hD hS hl)
theorem gw_iconst {n : Int} {v : Int32} (V : gw_V D cA h ta nL X cc own rm) (d : decode cc pc = .ok (.iconst n, 1)) (hv : Int32.ofInt n = v) (g : gw_G D h nL X ws cells slots (pc + 1) lv (.int v :: st)) : gw_G D h nL X ws cells slots pc lv st := by
  obtain ⟨p, l, e, R, s, m, args, below, meth, c, Q⟩ := X
  obtain ⟨hz, hx, hb, hml, hown, hts, hK, hSt, hin, hR⟩ := V
  intro H locs ls hP hD hS hl
  exact lv_iconst hx hb d hv (g H locs ls hP hD hS hl)
theorem gw_bipush {n : Int} {v : Int32} (V : gw_V D cA h ta nL X cc own rm) (d : decode cc pc = .ok (.bipush n, 2)) (hv : (Int8.ofInt n).toInt32 = v) (g : gw_G D h nL X ws cells slots (pc + 2) lv (.int v :: st)) : gw_G D h nL X ws cells slots pc lv st := by
  obtain ⟨p, l, e, R, s, m, args, below, meth, c, Q⟩ := X
  obtain ⟨hz, hx, hb, hml, hown, hts, hK, hSt, hin, hR⟩ := V
  intro H locs ls hP hD hS hl
  exact lv_bipush hx hb d hv (g H locs ls hP hD hS hl)
theorem gw_sipush {n : Int} {v : Int32} (V : gw_V D cA h ta nL X cc own rm) (d : decode cc pc = .ok (.sipush n, 3)) (hv : (Int16.ofInt n).toInt32 = v) (g : gw_G D h nL X ws cells slots (pc + 3) lv (.int v :: st)) : gw_G D h nL X ws cells slots pc lv st := by
  obtain ⟨p, l, e, R, s, m, args, below, meth, c, Q⟩ := X
  obtain ⟨hz, hx, hb, hml, hown, hts, hK, hSt, hin, hR⟩ := V
  intro H locs ls hP hD hS hl
  exact lv_sipush hx hb d hv (g H locs ls hP hD hS hl)
theorem gw_dup {v : Value} (V : gw_V D cA h ta nL X cc own rm) (d : decode cc pc = .ok (.dup, 1)) (hc : v.category = 1) (g : gw_G D h nL X ws cells slots (pc + 1) lv (v :: v :: st)) : gw_G D h nL X ws cells slots pc lv (v :: st) := by
  obtain ⟨p, l, e, R, s, m, args, below, meth, c, Q⟩ := X
  obtain ⟨hz, hx, hb, hml, hown, hts, hK, hSt, hin, hR⟩ := V
  intro H locs ls hP hD hS hl
  exact lv_dup hx hb d hc (g H locs ls hP hD hS hl)
theorem gw_istore {i : Fin 4} {x : Int32} {lv' : List (Nat × Value)} (V : gw_V D cA h ta nL X cc own rm) (d : decode cc pc = .ok (.istore_n i, 1)) (hn : (i : Nat) < nL) (hl' : ((i : Nat), Value.int x) :: lv.filter (fun q => !(q.1 == (i : Nat)) && !(q.1 + 1 == (i : Nat) && q.2.category == 2)) = lv') (g : gw_G D h nL X ws cells slots (pc + 1) lv' st) : gw_G D h nL X ws cells slots pc lv (.int x :: st) := by
  obtain ⟨p, l, e, R, s, m, args, below, meth, c, Q⟩ := X
  obtain ⟨hz, hx, hb, hml, hown, hts, hK, hSt, hin, hR⟩ := V
  intro H locs ls hP hD hS hl
  exact lv_istore_n hx hb d rfl hl hn hl' (fun ls' h' => g H locs ls' hP hD hS h')
theorem gw_iinc {i : Nat} {n : Int} {x z y : Int32} {lv' : List (Nat × Value)} (V : gw_V D cA h ta nL X cc own rm) (d : decode cc pc = .ok (.iinc i n, 3)) (k : Nat) (hk : lv[k]? = some (i, .int x)) (hv : Int32.ofInt n = z) (hy : x + z = y) (hn : i < nL) (hl' : (i, Value.int y) :: lv.filter (fun q => !(q.1 == i) && !(q.1 + 1 == i && q.2.category == 2)) = lv') (g : gw_G D h nL X ws cells slots (pc + 3) lv' st) : gw_G D h nL X ws cells slots pc lv st := by
  obtain ⟨p, l, e, R, s, m, args, below, meth, c, Q⟩ := X
  obtain ⟨hz, hx, hb, hml, hown, hts, hK, hSt, hin, hR⟩ := V
  intro H locs ls hP hD hS hl
  exact lv_iinc (v := y) hx hb d hl hk (by rw [hv, hy]) hn hl' (fun ls' h' => g H locs ls' hP hD hS h')
theorem gw_goto {off : Int} {tgt : Nat} (V : gw_V D cA h ta nL X cc own rm) (d : decode cc pc = .ok (.goto off, 3)) (ht : (pc : Int) + off = (tgt : Int)) (g : gw_G D h nL X ws cells slots tgt lv st) : gw_G D h nL X ws cells slots pc lv st := by
  obtain ⟨p, l, e, R, s, m, args, below, meth, c, Q⟩ := X
  obtain ⟨hz, hx, hb, hml, hown, hts, hK, hSt, hin, hR⟩ := V
  intro H locs ls hP hD hS hl
  exact lv_goto hx hb d ht (g H locs ls hP hD hS hl)
theorem gw_geY {off : Int} {tgt : Nat} {x y : Int32} (V : gw_V D cA h ta nL X cc own rm) (d : decode cc pc = .ok (.if_icmp .ge off, 3)) (ht : (pc : Int) + off = (tgt : Int)) (hc : y ≤ x) (g : gw_G D h nL X ws cells slots tgt lv st) : gw_G D h nL X ws cells slots pc lv (.int y :: .int x :: st) := by
  obtain ⟨p, l, e, R, s, m, args, below, meth, c, Q⟩ := X
  obtain ⟨hz, hx, hb, hml, hown, hts, hK, hSt, hin, hR⟩ := V
  intro H locs ls hP hD hS hl
  exact lv_icmp_ge hx hb d ht (fun _ => g H locs ls hP hD hS hl) (fun q => absurd hc q)
theorem gw_geN {off : Int} {tgt : Nat} {x y : Int32} (V : gw_V D cA h ta nL X cc own rm) (d : decode cc pc = .ok (.if_icmp .ge off, 3)) (ht : (pc : Int) + off = (tgt : Int)) (hc : ¬ y ≤ x) (g : gw_G D h nL X ws cells slots (pc + 3) lv st) : gw_G D h nL X ws cells slots pc lv (.int y :: .int x :: st) := by
  obtain ⟨p, l, e, R, s, m, args, below, meth, c, Q⟩ := X
  obtain ⟨hz, hx, hb, hml, hown, hts, hK, hSt, hin, hR⟩ := V
  intro H locs ls hP hD hS hl
  exact lv_icmp_ge hx hb d ht (fun q => absurd q hc) (fun _ => g H locs ls hP hD hS hl)
theorem gw_obj {idx a : Nat} (V : gw_V D cA h ta nL X cc own rm) (d : decode cc pc = .ok (.invokespecial idx, 3)) (hw : Cond.methodLink own idx Lib.objectInit ∈ ba_tb) (hi : Cond.instanceMethod Lib.objectInit ∈ ba_tb) (hcw : Cond.code Lib.objectInit ⟨#[0xb1]⟩ 1 none ∈ ba_tb) (hr : 1 ≤ rm.frames ∧ (st.map fun v => v.category).sum + 12 ≤ rm.locals) (g : gw_G D h nL X ws cells slots (pc + 3) lv st) : gw_G D h nL X ws cells slots pc lv (.ref a :: st) := by
  obtain ⟨p, l, e, R, s, m, args, below, meth, c, Q⟩ := X
  obtain ⟨hz, hx, hb, hml, hown, hts, hK, hSt, hin, hR⟩ := V
  subst hR
  intro H locs ls hP hD hS hl
  exact W.objInit hx hb hown (hts _ hw) (hts _ hi) (hts _ hcw) rfl (by rw [hml]; exact hl.1) rfl d hr.1 (by rw [show (F0 m pc ls (Value.ref a :: st)).monitorRoom = 0 from rfl, Nat.mul_zero, Nat.zero_add]; exact hr.2) (g H locs ls hP hD hS hl)
theorem gw_get {T : ba_T} {idx ci j i a : Nat} {ty : FieldType} {fin : Bool} {fs : List Value} {v : Value} (V : gw_V D cA h ta nL X cc own rm) (d : decode cc pc = .ok (.getfield idx, 3)) (hT : T.2.2.1 = ba_cl) (L : ba_FL T own idx ci j ty fin) (i : Nat) (he : ws[i]? = some (a, .inr (ci, fs))) (hv : fs[j]? = some v) (g : gw_G D h nL X ws cells slots (pc + 3) lv (v :: st)) : gw_G D h nL X ws cells slots pc lv (.ref a :: st) := by
  obtain ⟨p, l, e, R, s, m, args, below, meth, c, Q⟩ := X
  obtain ⟨hz, hx, hb, hml, hown, hts, hK, hSt, hin, hR⟩ := V
  obtain ⟨C, F, N, ty0, h1, h2, h3, h4, h5, h6, h7, h8⟩ := L
  rw [hT] at h1
  intro H locs ls hP hD hS hl
  exact va_get (D := D) hx hb hts h3 hown hK hP i he h1 j h2 (hts _ h6) (fun _ h9 => h9) hv d (g H locs ls hP hD hS hl)
theorem gw_put {T : ba_T} {idx ci j a : Nat} {ty : FieldType} {fin : Bool} {fs : List Value} {v : Value} {ws' : va_W} (V : gw_V D cA h ta nL X cc own rm) (d : decode cc pc = .ok (.putfield idx, 3)) (hT : T.2.2.1 = ba_cl) (L : ba_FL T own idx ci j ty fin) (hdecl : ∀ C F N, ba_cl[ci]? = some (C, F, N) → (F j).1 = own) (i : Nat) (he : ws[i]? = some (a, .inr (ci, fs))) (hn : narrow ty v = v) (hfit : fits ty v = true) (hlen : j < fs.length) (hws : ws.set i (a, .inr (ci, fs.set j v)) = ws') (g : gw_G D h nL X ws' cells slots (pc + 3) lv st) : gw_G D h nL X ws cells slots pc lv (v :: .ref a :: st) := by
  obtain ⟨p, l, e, R, s, m, args, below, meth, c, Q⟩ := X
  obtain ⟨hz, hx, hb, hml, hown, hts, hK, hSt, hin, hR⟩ := V
  obtain ⟨C, F, N, ty0, h1, h2, h3, h4, h5, h6, h7, h8⟩ := L
  rw [hT] at h1
  subst hws
  intro H locs ls hP hD hS hl
  have hd : parseFieldDescriptor (F j).2.2.1 = some ty := by rw [h4 j h2, h8]
  cases fin with
  | true => exact va_putF (D := D) hx hb hts h3 ty0 h4 h5 hown hK hP hD hS i he h1 j h2 (hts _ h6) (fun _ h9 => h9) h7 hin (hdecl C F N h1) hd hn hfit hlen d (fun H1 locs1 a1 a2 a3 => g H1 locs1 ls a1 a2 a3 hl)
  | false => exact va_put (D := D) hx hb hts h3 ty0 h4 h5 hown hK hP hD hS i he h1 j h2 (hts _ h6) (fun _ h9 => h9) h7 hd hn hfit hlen d (fun H1 locs1 a1 a2 a3 => g H1 locs1 ls a1 a2 a3 hl)
theorem gw_newI {n : Int32} {N : Nat} (V : gw_V D cA h ta nL X cc own rm) (d : decode cc pc = .ok (.newarray .int, 2)) (harr : Cond.arrayClass .int ∈ ba_tb) (hn : ¬ n < 0) (hN : n.toNatClampNeg = N) (hB : N * 4 ≤ 536870912) (hc : cells + 1 ≤ rm.cells) (hs : slots + N ≤ rm.slots) (g : ∀ q, gw_G D h nL X ((q, .inl (cA 0, N, .inl (fun _ => 0))) :: ws) (cells + 1) (slots + N) (pc + 2) lv (.ref q :: st)) : gw_G D h nL X ws cells slots pc lv (.int n :: st) := by
  obtain ⟨p, l, e, R, s, m, args, below, meth, c, Q⟩ := X
  obtain ⟨hz, hx, hb, hml, hown, hts, hK, hSt, hin, hR⟩ := V
  subst hR
  intro H locs ls hP hD hS hl
  refine va_newa (atype := .int) (ty := .int) (a0 := (N, .inl (fun _ => 0))) hx hb (hts _ harr) rfl hK hP hD hS (fun q hq => Nat.le_trans hz hq) (fun _ => rfl) hn hN hB hc hs d (fun q c1 H1 hK1 hP1 hD1 hS1 => ?_)
  have e1 : s.vm.findClass ("[" ++ FieldType.int.toString) = some c1 := (hK1.2 (gw_tys cA).length (c1, .int) (by rw [List.getElem?_append_right (Nat.le_refl _), Nat.sub_self]; rfl)).2
  have e2 : s.vm.findClass ("[" ++ FieldType.int.toString) = some (cA 0) := (hK.2 0 (cA 0, .int) rfl).2
  rw [e1] at e2
  have e3 : c1 = cA 0 := Option.some.inj e2
  subst e3
  exact g q H1 locs ls (gw_Prot hP1) (gw_Drot hD1) hS1 hl
theorem gw_newL {n : Int32} {N : Nat} (V : gw_V D cA h ta nL X cc own rm) (d : decode cc pc = .ok (.newarray .long, 2)) (harr : Cond.arrayClass .long ∈ ba_tb) (hn : ¬ n < 0) (hN : n.toNatClampNeg = N) (hB : N * 8 ≤ 536870912) (hc : cells + 1 ≤ rm.cells) (hs : slots + N ≤ rm.slots) (g : ∀ q, gw_G D h nL X ((q, .inl (cA 1, N, .inr (.inl (fun _ => 0)))) :: ws) (cells + 1) (slots + N) (pc + 2) lv (.ref q :: st)) : gw_G D h nL X ws cells slots pc lv (.int n :: st) := by
  obtain ⟨p, l, e, R, s, m, args, below, meth, c, Q⟩ := X
  obtain ⟨hz, hx, hb, hml, hown, hts, hK, hSt, hin, hR⟩ := V
  subst hR
  intro H locs ls hP hD hS hl
  refine va_newa (atype := .long) (ty := .long) (a0 := (N, .inr (.inl (fun _ => 0)))) hx hb (hts _ harr) rfl hK hP hD hS (fun q hq => Nat.le_trans hz hq) (fun _ => rfl) hn hN hB hc hs d (fun q c1 H1 hK1 hP1 hD1 hS1 => ?_)
  have e1 : s.vm.findClass ("[" ++ FieldType.long.toString) = some c1 := (hK1.2 (gw_tys cA).length (c1, .long) (by rw [List.getElem?_append_right (Nat.le_refl _), Nat.sub_self]; rfl)).2
  have e2 : s.vm.findClass ("[" ++ FieldType.long.toString) = some (cA 1) := (hK.2 1 (cA 1, .long) rfl).2
  rw [e1] at e2
  have e3 : c1 = cA 1 := Option.some.inj e2
  subst e3
  exact g q H1 locs ls (gw_Prot hP1) (gw_Drot hD1) hS1 hl
theorem gw_newQ {n : Int32} {N idx t : Nat} {C : String} (V : gw_V D cA h ta nL X cc own rm) (d : decode cc pc = .ok (.anewarray idx, 3)) (hcl : Cond.classLink own idx C ∈ ba_tb) (hC : (t = 2 ∧ C = "Bagatelle$Text") ∨ (t = 3 ∧ C = "Bagatelle$Sheet")) (hn : ¬ n < 0) (hN : n.toNatClampNeg = N) (hB : N * 4 ≤ 536870912) (hc : cells + 1 ≤ rm.cells) (hs : slots + N ≤ rm.slots) (g : ∀ q, gw_G D h nL X ((q, .inl (cA t, N, .inr (.inr (.inr (.inr (fun _ => none)))))) :: ws) (cells + 1) (slots + N) (pc + 3) lv (.ref q :: st)) : gw_G D h nL X ws cells slots pc lv (.int n :: st) := by
  obtain ⟨p, l, e, R, s, m, args, below, meth, c, Q⟩ := X
  obtain ⟨hz, hx, hb, hml, hown, hts, hK, hSt, hin, hR⟩ := V
  subst hR
  intro H locs ls hP hD hS hl
  have hAO : va_AO C s := by
    rcases hC with ⟨-, rfl⟩ | ⟨-, rfl⟩
    · exact hSt.2.2.1
    · exact hSt.2.2.2.1
  have hty : (gw_tys cA)[t]? = some (cA t, .object C) := by rcases hC with ⟨rfl, rfl⟩ | ⟨rfl, rfl⟩ <;> rfl
  refine va_newq hx hb hown (hts _ hcl) hAO hK hP hD hS (fun q hq => Nat.le_trans hz hq) hn hN hB hc hs d (fun q c1 H1 hK1 hP1 hD1 hS1 => ?_)
  obtain ⟨_, _, _, _, _, e1⟩ := (hK1.2 (gw_tys cA).length (c1, .object C) (by rw [List.getElem?_append_right (Nat.le_refl _), Nat.sub_self]; rfl)).2
  obtain ⟨_, _, _, _, _, e2⟩ := (hK.2 t (cA t, .object C) hty).2
  rw [e1] at e2
  have e3 : c1 = cA t := Option.some.inj e2
  subst e3
  exact g q H1 locs ls (gw_Prot hP1) (gw_Drot hD1) hS1 hl
theorem gw_new {idx ci N : Nat} {C : String} {F : u_T} {ty0 : Nat → FieldType} {fs : List Value} (V : gw_V D cA h ta nL X cc own rm) (d : decode cc pc = .ok (.new idx, 3)) (hcl : Cond.classLink own idx C ∈ ba_tb) (hinst : Cond.instantiable C N ∈ ba_tb) (hini : Cond.initialized C ∈ ba_tb) (hci : ba_cl[ci]? = some (C, F, N)) (hin' : ∀ w ∈ u_ws C F N, w ∈ ba_tb) (hty : ∀ k, k < N → parseFieldDescriptor (F k).2.2.1 = some (ty0 k)) (hfs : ∀ j, j < N → defaultValue (ty0 j) = vp_V fs j) (hc : cells + 1 ≤ rm.cells) (hs : slots + N ≤ rm.slots) (g : ∀ q, gw_G D h nL X ((q, .inr (ci, fs)) :: ws) (cells + 1) (slots + N) (pc + 3) lv (.ref q :: st)) : gw_G D h nL X ws cells slots pc lv st := by
  obtain ⟨p, l, e, R, s, m, args, below, meth, c, Q⟩ := X
  obtain ⟨hz, hx, hb, hml, hown, hts, hK, hSt, hin, hR⟩ := V
  subst hR
  intro H locs ls hP hD hS hl
  exact va_new (ci := ci) (fs := fs) hx hb hts hin' ty0 hty hown (hts _ hcl) (hts _ hinst) (hts _ hini) hK hP hD hS (fun q hq => Nat.le_trans hz hq) hci hfs hc hs d (fun q H1 hP1 hD1 hS1 => g q H1 locs ls (gw_Prot hP1) (gw_Drot hD1) hS1 hl)
theorem gw_iast {a N : Nat} {f : Nat → Int32} {i x : Int32} {ws' : va_W} (V : gw_V D cA h ta nL X cc own rm) (d : decode cc pc = .ok (.iastore, 1)) (k : Nat) (he : ws[k]? = some (a, .inl (cA 0, N, .inl f))) (hi : vp_in i N) (hws : ws.set k (a, .inl (cA 0, N, .inl (upd f i.toNatClampNeg x))) = ws') (g : gw_G D h nL X ws' cells slots (pc + 1) lv st) : gw_G D h nL X ws cells slots pc lv (.int x :: .int i :: .ref a :: st) := by
  obtain ⟨p, l, e, R, s, m, args, below, meth, c, Q⟩ := X
  obtain ⟨hz, hx, hb, hml, hown, hts, hK, hSt, hin, hR⟩ := V
  subst hws
  intro H locs ls hP hD hS hl
  exact va_iast hx hb hK hP hD hS k 0 he rfl hi d (fun H1 locs1 a1 a2 a3 => g H1 locs1 ls a1 a2 a3 hl)
theorem gw_aast {a N t v ci : Nat} {f : Nat → Option Nat} {i : Int32} {vs : List Value} {C : String} {F : u_T} {M : Nat} {ws' : va_W} (V : gw_V D cA h ta nL X cc own rm) (d : decode cc pc = .ok (.aastore, 1)) (k kv : Nat) (he : ws[k]? = some (a, .inl (cA t, N, .inr (.inr (.inr (.inr f)))))) (ht : (gw_tys cA)[t]? = some (cA t, .object C)) (hv : ws[kv]? = some (v, .inr (ci, vs))) (hci : ba_cl[ci]? = some (C, F, M)) (hi : vp_in i N) (hws : ws.set k (a, .inl (cA t, N, .inr (.inr (.inr (.inr (va_up f i.toNatClampNeg (some v))))))) = ws') (g : gw_G D h nL X ws' cells slots (pc + 1) lv st) : gw_G D h nL X ws cells slots pc lv (.ref v :: .int i :: .ref a :: st) := by
  obtain ⟨p, l, e, R, s, m, args, below, meth, c, Q⟩ := X
  obtain ⟨hz, hx, hb, hml, hown, hts, hK, hSt, hin, hR⟩ := V
  subst hws
  intro H locs ls hP hD hS hl
  exact va_astq hx hb hK hP hD hS k t kv ci (r := (C, F, M)) he ht hv hci hi d (fun H1 locs1 a1 a2 a3 => g H1 locs1 ls a1 a2 a3 hl)
theorem gw_gets {idx : Nat} (V : gw_V D cA h ta nL X cc own rm) (d : decode cc pc = .ok (.getstatic idx, 3)) (hw : Cond.fieldLink own idx "Bagatelle" "TEXT_LIMITS" "[I" ∈ ba_tb) (g : gw_G D h nL X ws cells slots (pc + 3) lv (.ref ta :: st)) : gw_G D h nL X ws cells slots pc lv st := by
  obtain ⟨p, l, e, R, s, m, args, below, meth, c, Q⟩ := X
  obtain ⟨hz, hx, hb, hml, hown, hts, hK, hSt, hin, hR⟩ := V
  intro H locs ls hP hD hS hl
  exact va_gets hx hb hSt.1 hS hown (hts _ hw) (fun _ h9 => h9) d (g H locs ls hP hD hS hl)
theorem gw_sald {j v : Int32} (V : gw_V D cA h ta nL X cc own rm) (d : decode cc pc = .ok (.iaload, 1)) (hi : vp_in j 3) (hv : ([47, 9, 35] : List Int32).getD j.toNatClampNeg 0 = v) (g : gw_G D h nL X ws cells slots (pc + 1) lv (.int v :: st)) : gw_G D h nL X ws cells slots pc lv (.int j :: .ref ta :: st) := by
  obtain ⟨p, l, e, R, s, m, args, below, meth, c, Q⟩ := X
  obtain ⟨hz, hx, hb, hml, hown, hts, hK, hSt, hin, hR⟩ := V
  intro H locs ls hP hD hS hl
  exact va_ti hx hb hSt.2.1 hS hi (v := .int v) (by rw [hv]) d (g H locs ls hP hD hS hl)
/-- a constructor, called -/
theorem gw_call {idx n maxL a : Nat} {y : MethodName} {bytes : ByteArray} {rm' : Room} {As : List Value} {w0 R : va_W} {w1 : (Nat → Nat) → va_W} {st0 : List Value} (V : gw_V D cA h ta nL X cc own rm) (d : decode cc pc = .ok (.invokespecial idx, 3)) (hy : y.name = "<init>") (hc1 : Cond.code y bytes maxL none ∈ ba_tb) (hc2 : Cond.initialized y.cls ∈ ba_tb) (hc3 : Cond.methodLink own idx y ∈ ba_tb) (hc4 : Cond.instanceMethod y ∈ ba_tb) (hd : y.cls ≠ "java/lang/invoke/MethodHandle" ∧ y.cls ≠ "java/lang/invoke/VarHandle" ∧ (parseMethodDescriptor y.desc).map (fun d => d.parameters.length) = some n) (K : ∀ l, gw_C D cA h ta l y bytes maxL rm' (.ref a :: As) w0 w1) (hst : st0 = As.reverse ++ .ref a :: st) (hn : As.length = n) (hfit : rm'.frames + 1 ≤ rm.frames ∧ 8 + (maxL + 11) + rm'.locals ≤ rm.locals) (hcs : cells + rm'.cells ≤ rm.cells ∧ slots + rm'.slots ≤ rm.slots) (hcat : (st.map fun v => v.category).sum ≤ 8) (hws : w0 ++ R = ws) (g : ∀ u, gw_G D h nL X (w1 u ++ R) (cells + rm'.cells) (slots + rm'.slots) (pc + 3) lv st) : gw_G D h nL X ws cells slots pc lv st0 := by
  obtain ⟨p, l, e, R0, s, m, args, below, meth, c, Q⟩ := X
  obtain ⟨hz, hx, hb, hml, hown, hts, hK, hSt, hin, hR⟩ := V
  subst hR
  subst hws
  subst hst
  intro H locs ls hP hD hS hl
  refine va_callv (va_runI (As := As) (rest := st) (Ts := ba_tb) ⟨hx, hb, hml, hown, hts⟩ (K l R) ⟨callB_of n hts (ba_good (fun _ h => h) hc1) rfl rfl rfl (hts _ hc2) (hts _ hc3) hd hfit, hy, hts _ hc4⟩ ⟨gw_blind, fun U hU hW => ⟨rfl, by rw [hU]; exact Nat.le_trans hz hS.1, by rw [hU]; exact hP, hD, va_K.moved hW.alike hK, by rw [hU]; exact hSt.go hS hW⟩⟩ rfl hn hl.1 rfl (lv_room hcat) d hcs) hS (fun q _ h => h) (fun q h => h) (fun u t H1 locs1 ht hvm hw hB hz1 hk1 hS1 => ?_)
  rw [ht] at hB
  exact g u H1 locs1 ls hB.1 hB.2 hS1 hl
theorem gw_callN {idx n maxL a : Nat} {y : MethodName} {host : String} {bytes : ByteArray} {rm' : Room} {As : List Value} {w0 R : va_W} {w1 : (Nat → Nat) → va_W} {st0 : List Value} (V : gw_V D cA h ta nL X cc own rm) (d : decode cc pc = .ok (.invokespecial idx, 3)) (hy : y.name = "<init>") (hc1 : Cond.code y bytes maxL none ∈ ba_tb) (hc2 : Cond.initialized y.cls ∈ ba_tb) (hc3 : ∀ s, gw_St h ta s s.heap → va_Nw (.methodLinkNest own idx y host) s) (hc4 : Cond.instanceMethod y ∈ ba_tb) (hd : y.cls ≠ "java/lang/invoke/MethodHandle" ∧ y.cls ≠ "java/lang/invoke/VarHandle" ∧ (parseMethodDescriptor y.desc).map (fun d => d.parameters.length) = some n) (K : ∀ l, gw_C D cA h ta l y bytes maxL rm' (.ref a :: As) w0 w1) (hst : st0 = As.reverse ++ .ref a :: st) (hn : As.length = n) (hfit : rm'.frames + 1 ≤ rm.frames ∧ 8 + (maxL + 11) + rm'.locals ≤ rm.locals) (hcs : cells + rm'.cells ≤ rm.cells ∧ slots + rm'.slots ≤ rm.slots) (hcat : (st.map fun v => v.category).sum ≤ 8) (hws : w0 ++ R = ws) (g : ∀ u, gw_G D h nL X (w1 u ++ R) (cells + rm'.cells) (slots + rm'.slots) (pc + 3) lv st) : gw_G D h nL X ws cells slots pc lv st0 := by
  obtain ⟨p, l, e, R0, s, m, args, below, meth, c, Q⟩ := X
  obtain ⟨hz, hx, hb, hml, hown, hts, hK, hSt, hin, hR⟩ := V
  subst hR
  subst hws
  subst hst
  intro H locs ls hP hD hS hl
  refine va_callv (va_runIN (As := As) (rest := st) (Ts := ba_tb) ⟨hx, hb, hml, hown, hts⟩ (K l R) ⟨va_cnB n hts (ba_good (fun _ h => h) hc1) rfl rfl rfl (hc3 s hSt) (hts _ hc2) hd hfit, hy, hts _ hc4⟩ ⟨gw_blind, fun U hU hW => ⟨rfl, by rw [hU]; exact Nat.le_trans hz hS.1, by rw [hU]; exact hP, hD, va_K.moved hW.alike hK, by rw [hU]; exact hSt.go hS hW⟩⟩ rfl hn hl.1 rfl (lv_room hcat) d hcs) hS (fun q _ h => h) (fun q h => h) (fun u t H1 locs1 ht hvm hw hB hz1 hk1 hS1 => ?_)
  rw [ht] at hB
  exact g u H1 locs1 ls hB.1 hB.2 hS1 hl
/-- Arrays.fill over a row of 72 -/
theorem gw_fill {idx a : Nat} {f : Nat → Int32} {v : Int32} {ws' : va_W} (V : gw_V D cA h ta nL X cc own rm) (d : decode cc pc = .ok (.invokestatic idx, 3)) (M : ba_MS own idx 2 yJ7_fill_53178 cJ7_fill_53178 4 none) (k : Nat) (he : ws[k]? = some (a, .inl (cA 0, 72, .inl f))) (hfit : 1 ≤ rm.frames ∧ 23 ≤ rm.locals) (hc : cells ≤ rm.cells ∧ slots ≤ rm.slots) (hcat : (st.map fun v => v.category).sum ≤ 8) (hws : ws.set k (a, .inl (cA 0, 72, .inl (fun j => if j < 72 then v else f j))) = ws') (g : gw_G D h nL X ws' cells slots (pc + 3) lv st) : gw_G D h nL X ws cells slots pc lv (.int v :: .ref a :: st) := by
  obtain ⟨p, l, e, R0, s, m, args, below, meth, c, Q⟩ := X
  obtain ⟨hz, hx, hb, hml, hown, hts, hK, hSt, hin, hR⟩ := V
  subst hR
  subst hws
  intro H locs ls hP hD hS hl
  obtain ⟨⟨m1, m2, m3, m4⟩, m5⟩ := M
  have hj : ba_inj ba_tF ((fun _ => a, cA, D, fun _ => 0) : ba_W) := fun i j hi hj _ => by
    have h1 : i < 1 := hi
    have h2 : j < 1 := hj
    omega
  obtain ⟨o, o1, -, -, o4, o5⟩ := pj_fill ((fun _ => f, fun _ _ => 0) : ba_St) 0 72 v (by omega)
  have ho : o.1 0 = fun j => if j < 72 then v else f j := by
    funext j
    by_cases hj : j < 72
    · rw [if_pos hj]; exact o4 j hj
    · rw [if_neg hj]; exact o5 j (by omega)
  have KF := yf_fill (w := ((fun _ => a, cA, D, fun _ => 0) : ba_W)) hj l (s := ((fun _ => f, fun _ _ => 0) : ba_St)) (a0 := 0) (a0n := 72) (a1 := v) ⟨⟨Nat.le_of_ble_eq_true rfl, rfl⟩, rfl, rfl⟩ o1
  have hSC0 : ∀ U : State, ba_SC ba_tF ((fun _ => a, cA, D, fun _ => 0) : ba_W) U U.heap := by
    intro U i q hq
    have hq' : ([] : List (String × String × List Int32))[i]? = some q := hq
    rw [List.getElem?_nil] at hq'; cases hq'
  have hNW0 : ∀ U : State, ba_NW ba_tF U := by
    intro U c hc
    have hc' : c ∈ ([] : List Cond) := hc
    cases hc'
  have hP0 : va_P D ba_cl (ba_ws ba_tF ((fun _ => a, cA, D, fun _ => 0) : ba_W) ((fun _ => f, fun _ _ => 0) : ba_St)) H := by
    intro j q hq
    have hj : j < 1 := by
      have := (List.getElem?_eq_some_iff.mp hq).1
      simpa [ba_ws, ba_tF] using this
    have ej : j = 0 := by omega
    subst ej
    have eq : q = (a, .inl (cA 0, 72, .inl f)) := (Option.some.inj hq).symm
    rw [eq]
    exact hP k _ he
  refine va_callv (va_runS (As := [.ref a, .int v]) (rest := st) (Ts := ba_tb) ⟨hx, hb, hml, hown, hts⟩ KF ⟨callB_of 2 hts (ba_good (fun _ h => h) m1) rfl rfl rfl (hts _ m2) (hts _ m3) m4 ⟨hfit.1, hfit.2⟩, hts _ m5⟩ ⟨ba_blind, fun U hU hW => ⟨rfl, by rw [hU]; exact hP0, va_K.moved hW.alike hK, hSC0 U, hNW0 U⟩⟩ rfl rfl hl.1 rfl (lv_room hcat) d hc) hS (fun q _ hq => ?_) (fun q hq => ?_) (fun u t H1 locs1 ht hvm hw hB hz1 hk1 hS1 => ?_)
  · obtain ⟨i, -, rfl⟩ := hq
    exact hD.2 k _ he
  · obtain ⟨i, -, rfl⟩ := hq
    exact hD.2 k _ he
  · subst hw
    have hB' : va_P D ba_cl (ba_ws ba_tF ((fun _ => a, cA, D, fun _ => 0) : ba_W) u) t.heap := hB
    rw [ht] at hB'
    have h0 := hB' 0 (a, .inl (cA 0, 72, .inl (u.1 0))) rfl
    rw [ho] at h0
    refine g H1 locs1 ls (fun j q hq => ?_) (hD.set he) hS1 hl
    by_cases ej : j = k
    · subst ej
      have hl' := (List.getElem?_eq_some_iff.mp he).1
      rw [List.getElem?_set_self hl'] at hq
      have eq := (Option.some.inj hq).symm
      rw [eq]; exact h0
    · rw [List.getElem?_set_ne (fun z => ej z.symm)] at hq
      have hat := hP j q hq
      refine hat.kept (hk1 q.1 hat.lt (fun z => ?_))
      obtain ⟨i, -, e1⟩ := z
      exact ej (hD.1 j k q _ hq he e1)
end GW
/-- a constructor's contract out of its walk -/
theorem gw_met {D : va_G} {cA : Nat → ClassId} {h ta : Nat} {y : MethodName} {bytes : ByteArray} {nL : Nat} {rm : Room} {av : List Value} {w0 : va_W} {w1 : (Nat → Nat) → va_W} {lv : List (Nat × Value)} (l : Launch) (hy : plainName y.cls = true) (hin : y.name = "<init>") (hlv : (lg_sl av).length ≤ nL ∧ lv_args 0 av = lv) (body : ∀ X R, gw_V D cA h ta nL X bytes y.cls rm → (∀ (u : Nat → Nat) (ws : va_W) (cells slots pc : Nat) (lv : List (Nat × Value)), decode bytes pc = .ok (.return_, 1) → cells ≤ rm.cells → slots ≤ rm.slots → ws = w1 u ++ R → gw_G D h nL X ws cells slots pc lv []) → gw_G D h nL X (w0 ++ R) 0 0 0 lv []) : gw_C D cA h ta l y bytes nL rm av w0 w1 := by
  intro R
  refine Met.ofW (cc := bytes) (maxL := nL) (ret := none) hy rfl ?_
  intro p e s0 m args below meth c s₁ B hml hv
  obtain ⟨rfl, hz, hP, hD, hK, hSt⟩ := hv
  have hx := B.exec
  have hb := B.bytes
  have hr := B.returns
  have hts := atoms_spec (ws := .code y bytes nL none :: ba_tb) B.pre
  have hown : s0.vm.findClass y.cls = some m.cls := findClass_of_methodNamed B.named
  have hlocks := B.notSynchronized
  have hname : meth.name = "<init>" := by rw [(name_of_methodNamed B.named B.method).1, hin]
  have hl := lv_entry av (n := nL) hlv.1
  rw [hlv.2] at hl
  have G := body (p, l, e, rm, s0, m, av.toArray, below, meth, c, MQ below (va_Qv (fun _ : Nat → Nat => True) (fun u t => va_P D ba_cl (w1 u ++ R) t.heap ∧ va_D (fun q => h ≤ q) (w1 u ++ R)) (fun q => h ≤ q)) av.toArray s0 rm.cells rm.slots (fun q => h ≤ q)) R ⟨hz, hx, hb, hml, hown, fun w hw => hts w (List.mem_cons_of_mem _ hw), hK, hSt, hname, rfl⟩ ?_
  · rw [lg_entry_eq]
    exact G s0.heap [] _ hP hD va_S.rf hl
  · intro u ws cells slots pc lv d k1 k2 ew H locs ls hP hD hS hl
    subst ew
    refine W.widen (k := rm.cells) (n := rm.slots) k1 k2 ?_
    refine W.vret hx hb hr (fun t ht hW => ⟨⟨u, rfl, trivial, ?_, hD⟩, hS.F ht⟩) hS.2.2 d
    rw [ht]
    exact hP
