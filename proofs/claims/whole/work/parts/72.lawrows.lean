/-! THE CLAIM OUT OF ONE WALK OF THE LAW'S BODY. Your part is whole_start (and what it stands on); all else here is the same for every law, but numbers. -/
def R_law : String := "BagatelleLaw"
def lw_P (b : Addr) (xs : List Int32) (args : Array Value) (s : State) : Prop := args = #[.ref b] ∧ s.IntsAt b xs ∧ xs.length ≤ 3072 ∧ (Jvm.Cond.and given_1 narrow_1).before args s = true
def lw_Q (_ : Array Value) (s : State) (o : Outcome) (t : State) : Prop := o = .returned (some (.int 1)) ∧ Framed s o t [] 600000 7302250
def lw_Z (below : List Frame) (a : Array Value) (s : State) : State → Prop := fun t => ∃ o, t.status = .running ∧ Ended t below o ∧ lw_Q a s o t
/-- the law's own end, with 1 on the stack, nothing written that was there before, its room as the claim has it -/
theorem lw_ret {p : Program} {l : Launch} {e : Env} {s : State} {m : MethodId} {below : List Frame} {meth : Method} {c : Code} {b : Nat} (hx : p.tables.exec = Jvm.exec) (hb : c.code = code) (hr : meth.sig.returnType = ret) (hlocks : meth.locks = false) {pc : Nat} {H : Heap} {ls : Array Slot} (hdg : decode code pc = .ok (.ireturn, 1)) : W p l e room_1 s m #[Value.ref b] below meth c H [] 600000 7302250 (lw_Z below #[Value.ref b] s) (F0 m pc ls [.int 1]) := by
  intro T hT X
  obtain ⟨fs, hret, hrun, hended, hW, hframe⟩ := X.leave (v := some (.int 1)) (hlocks := hlocks) (fun h => by rw [hr] at h; cases h)
  have hmeth' : T.vm.method? m = some meth := X.method'
  refine ⟨T.setFrames fs, ?_, .returned (some (.int 1)), hrun, hended, rfl, ⟨_, rfl⟩, hW, hframe⟩
  jvm_step X.here [X.here.top, hx, hb, hdg, hmeth', hr, ret, narrow_b1]
  (try refine ⟨rfl, ?_⟩); (try refine ⟨rfl, ?_⟩)
  first | (intro acts; rw [hret _ acts rfl rfl rfl]) | rw [hret _ _ rfl rfl rfl]
  exact Steps.refl _
/-- what holds at the law's entry: the machine, the code, the tables' words (any of lw_tbl by 'hts w (by decide +kernel)'), the script of L ints xs at the cell b, what the Statement gives of the start (any of its parts by flat_of_before) -/
def lw_At (p : Program) (s : State) (m : MethodId) (meth : Method) (c : Code) (b L : Nat) (xs : Nat → Int32) : Prop :=
  p.tables.exec = Jvm.exec ∧ c.code = code ∧ meth.sig.returnType = ret ∧ c.maxLocals = 4 ∧ s.vm.findClass R_law = some m.cls ∧ (∀ w ∈ lw_tbl, w.before #[Value.ref b] s = true) ∧ va_X b L xs s s.heap ∧ b < s.heap.size ∧ meth.locks = false ∧ (Jvm.Cond.and given_1 narrow_1).before #[Value.ref b] s = true
abbrev lc_X : Type := Program × Launch × Env × State × MethodId × List Frame × Method × Code × Nat × Nat × (Nat → Int32)
def lc_V (wC wM : ba_W) (X : lc_X) : Prop := match X with
  | (p, l, e, s, m, below, meth, c, b, L, xs) => L ≤ 3072 ∧ lw_At p s m meth c b L xs ∧ ba_inj ba_tC wC ∧ ba_inj ba_tM wM ∧ (∀ k, k < 61 → s.heap.size ≤ wC.1 k) ∧ (∀ k, k < 25 → s.heap.size ≤ wM.1 k) ∧ (∀ i j, i < 61 → j < 25 → wC.1 i ≠ wM.1 j) ∧ va_K wC.2.2.1 ba_cl (ba_tys ba_tC wC) s ∧ va_K wM.2.2.1 ba_cl (ba_tys ba_tM wM) s ∧ (ba_SC ba_tC wC s s.heap ∧ ba_NW ba_tC s) ∧ ba_SC ba_tM wM s s.heap ∧ ba_NW ba_tM s
def lc_G (wC wM : ba_W) (X : lc_X) (σ τ : ba_St) (pc : Nat) (lv : List (Nat × Value)) (st : List Value) : Prop := match X with
  | (p, l, e, s, m, below, meth, c, b, L, xs) => ∀ (H : Heap) (locs : List Loc) (ls : Array Slot), va_P wC.2.2.1 ba_cl (ba_ws ba_tC wC σ) H → va_P wM.2.2.1 ba_cl (ba_ws ba_tM wM τ) H → va_S (fun q => s.heap.size ≤ q) s.heap H locs → lv_has ls 4 lv → W p l e room_1 s m #[Value.ref b] below meth c H locs 86 6522 (lw_Z below #[Value.ref b] s) (F0 m pc ls st)
def lc_b (X : lc_X) : Nat := X.2.2.2.2.2.2.2.2.1
def lc_L (X : lc_X) : Nat := X.2.2.2.2.2.2.2.2.2.1
def lc_s (X : lc_X) : Nat → Int32 := X.2.2.2.2.2.2.2.2.2.2
def lc_lv (wC wM : ba_W) (X : lc_X) (i : Nat) : List (Nat × Value) := [(0, .ref (lc_b X)), (1, .ref (wC.1 0)), (2, .ref (wM.1 0)), (3, .int (nI i))]
theorem lc_tb {p : Program} {s : State} {m : MethodId} {meth : Method} {c : Code} {b L : Nat} {xs : Nat → Int32} (C0 : lw_At p s m meth c b L xs) : ∀ w ∈ ba_tb, w.before #[Value.ref b] s = true := fun w hw => C0.2.2.2.2.2.1 w (List.mem_filter.mp hw).1
theorem lc_pre {T : ba_T} {w : ba_W} {σ : ba_St} {s U : State} {H : Heap} (hP : va_P w.2.2.1 T.2.2.1 (ba_ws T w σ) H) (hk : ∀ a : Nat, a < s.heap.size → H[a]? = s.heap[a]?) (hK : va_K w.2.2.1 T.2.2.1 (ba_tys T w) s) (hSC : ba_SC T w s s.heap) (hNW : ba_NW T s) (hU : U.heap = H) (hW : s.WarmedH U.vm) : ba_Pre T w σ U := by
  refine ⟨by rw [hU]; exact hP, va_K.moved hW.alike hK, fun i q hq => ?_, fun c hc => ?_⟩
  · rw [hU]
    exact ⟨((hSC i q hq).1.kept (fun a ha _ => hk a ha)).moved hW.alike, ((hSC i q hq).2.kept (fun a ha _ => hk a ha)).moved hW.alike⟩
  · obtain ⟨h0, hn⟩ := hNW c hc
    obtain ⟨a, i, x, hh, rfl⟩ := h0
    exact ⟨⟨a, i, x, hh, rfl⟩, va_Nw.warmM hW hn⟩
theorem lc_kept {T T' : ba_T} {w w' : ba_W} {τ : ba_St} {D : va_G} {H H1 : Heap} (hP : va_P D ba_cl (ba_ws T w τ) H) (hk1 : ∀ q : Nat, q < H.size → ¬ ba_A T' w' q → H1[q]? = H[q]?) (dj : ∀ i j, i < T'.2.1 → j < T.2.1 → w'.1 i ≠ w.1 j) : va_P D ba_cl (ba_ws T w τ) H1 := by
  intro k q hq
  have hk : k < T.2.1 := by
    have := (List.getElem?_eq_some_iff.mp hq).1
    unfold ba_ws at this
    rw [List.length_map, List.length_range] at this
    exact this
  have e : q.1 = w.1 k := by
    have h := hq
    rw [ba_ws_at hk] at h
    rw [← Option.some.inj h]
  refine (hP k q hq).kept (hk1 q.1 (hP k q hq).lt (fun z => ?_))
  obtain ⟨i, hi, ei⟩ := z
  exact dj i k hi hk (by rw [← ei, e])
section LC
variable {wC wM : ba_W} {X : lc_X} {σ τ : ba_St} {pc : Nat} {lv : List (Nat × Value)} {st : List Value}
theorem lc_aload {j : Fin 4} {x : Nat} (V : lc_V wC wM X) (d : decode code pc = .ok (.aload_n j, 1)) (k : Nat) (hk : lv[k]? = some ((j : Nat), .ref x)) (g : lc_G wC wM X σ τ (pc + 1) lv (.ref x :: st)) : lc_G wC wM X σ τ pc lv st := by
  obtain ⟨p, l, e, s, m, below, meth, c, b, L, xs⟩ := X
  obtain ⟨hL, ⟨hx, hb, -⟩, -⟩ := V
  intro H locs ls hC hM hS hl
  exact lv_aload_n hx hb d rfl (lv_at hl k hk) (g H locs ls hC hM hS hl)
/-- an int of the script: aload_0, iload_3, iconst, iadd, iaload -/
theorem lc_arg {i k : Nat} {n : Int} (V : lc_V wC wM X) (d0 : decode code pc = .ok (.aload_n 0, 1)) (d1 : decode code (pc + 1) = .ok (.iload_n 3, 1)) (d2 : decode code (pc + 1 + 1) = .ok (.iconst n, 1)) (d3 : decode code (pc + 1 + 1 + 1) = .ok (.iadd, 1)) (d4 : decode code (pc + 1 + 1 + 1 + 1) = .ok (.iaload, 1)) (hn : Int32.ofInt n = nI k) (hi : i + k < lc_L X) (g : lc_G wC wM X σ τ (pc + 1 + 1 + 1 + 1 + 1) (lc_lv wC wM X i) (.int (lc_s X (i + k)) :: st)) : lc_G wC wM X σ τ pc (lc_lv wC wM X i) st := by
  obtain ⟨p, l, e, s, m, below, meth, c, b, L, xs⟩ := X
  obtain ⟨hL, ⟨hx, hb, hr, hml, hown, hts, hX, hbl, hlocks, hgv⟩, -⟩ := V
  have hi' : i + k < L := hi
  intro H locs ls hC hM hS hl
  refine lv_aload_n hx hb d0 rfl (lv_at hl 0 rfl) ?_
  refine lv_iload_n hx hb d1 rfl (lv_at hl 3 rfl) ?_
  refine lv_iconst hx hb d2 hn ?_
  refine lv_iadd hx hb d3 ?_
  rw [nI_add]
  refine va_sld hx hb hX hbl (Nat.not_le.mpr hbl) hS (vp_in_nI hi' (by omega)) d4 ?_
  rw [nI_clamp (by omega)]
  exact g H locs ls hC hM hS hl
theorem lc_eqI {off : Int} {tgt : Nat} {v : Int32} (V : lc_V wC wM X) (d : decode code pc = .ok (.if_icmp .eq off, 3)) (ht : (pc : Int) + off = (tgt : Int)) (g : lc_G wC wM X σ τ tgt lv st) : lc_G wC wM X σ τ pc lv (.int v :: .int v :: st) := by
  obtain ⟨p, l, e, s, m, below, meth, c, b, L, xs⟩ := X
  obtain ⟨hL, ⟨hx, hb, -⟩, -⟩ := V
  intro H locs ls hC hM hS hl
  exact lv_icmp_eq hx hb d ht (fun _ => g H locs ls hC hM hS hl) (fun q => absurd rfl q)
theorem lc_eqL {off : Int} {tgt : Nat} {v : Int64} (V : lc_V wC wM X) (d : decode code pc = .ok (.lcmp, 1)) (d1 : decode code (pc + 1) = .ok (.ifCond .eq off, 3)) (ht : ((pc + 1 : Nat) : Int) + off = (tgt : Int)) (g : lc_G wC wM X σ τ tgt lv st) : lc_G wC wM X σ τ pc lv (.long v :: .long v :: st) := by
  obtain ⟨p, l, e, s, m, below, meth, c, b, L, xs⟩ := X
  obtain ⟨hL, ⟨hx, hb, -⟩, -⟩ := V
  intro H locs ls hC hM hS hl
  refine W.lcmp hx hb d ?_
  have z : lg_cmp v v = 0 := by
    unfold lg_cmp
    rw [if_neg (Int64.lt_irrefl), if_pos rfl]
  rw [z]
  exact lv_if_eq hx hb d1 ht (fun _ => g H locs ls hC hM hS hl) (fun q => absurd rfl q)
theorem lc_callCI {idx n maxL : Nat} {y : MethodName} {bytes : ByteArray} {ret : Option FieldType} {rm' : Room} {As : List Value} {σ' : ba_St} {st0 : List Value} {v : Int32} (V : lc_V wC wM X) (d : decode code pc = .ok (.invokevirtual idx, 3)) (M : ba_MV ba_tC R_law idx n 5 y bytes maxL ret) (K : ∀ l, ba_CI ba_tC wC l y bytes maxL ret rm' (.ref (wC.1 0) :: As) σ (v, σ')) (hst : st0 = As.reverse ++ .ref (wC.1 0) :: st ∧ As.length = n) (hfit : rm'.cells = 0 ∧ rm'.slots = 0 ∧ rm'.frames + 1 ≤ room_1.frames ∧ 8 + (maxL + 11) + rm'.locals ≤ room_1.locals) (hcat : (st.map fun v => v.category).sum ≤ 8) (g : lc_G wC wM X σ' τ (pc + 3) lv (.int v :: st)) : lc_G wC wM X σ τ pc lv st0 := by
  obtain ⟨p, l, e, s, m, below, meth, c, b, L, xs⟩ := X
  obtain ⟨hL, C0, jC, jM, rC, rM, dj, kC, kM, sC, sM⟩ := V
  have hts := lc_tb C0
  obtain ⟨hx, hb, hr, hml, hown, -, hX, hbl, hlocks, hgv⟩ := C0
  obtain ⟨f1, f2, f3, f4⟩ := hfit
  intro H locs ls hC hM hS hl
  obtain ⟨⟨m1, m2, m3, m4⟩, m5, m6, F, N, m7⟩ := M
  obtain ⟨hst, hn⟩ := hst
  subst hst
  have hw0 : ∀ q, ba_A ba_tC wC q → s.heap.size ≤ q := fun q z => by
    obtain ⟨k, hk, e⟩ := z
    rw [e]; exact rC k hk
  obtain ⟨fs, he⟩ : ∃ fs, (ba_ws ba_tC wC σ)[0]? = some (wC.1 0, .inr (5, fs)) := ⟨_, by rw [ba_ws_at ba_sBag.1, ba_sBag.2]; rfl⟩
  have hrecv : ∃ cellB : Cell, H[wC.1 0]? = some cellB ∧ cellB.vm.isStatics = false ∧ s.vm.findClass y.cls = some cellB.cls := va_recv kC hC (ci := 5) (q0 := 0) m7 he
  refine va_calli (va_runV (C := y.cls) (As := As) (rest := st) (Ts := ba_tb) ⟨hx, hb, hml, hown, hts⟩ (K l) ⟨callB_of n hts (ba_good (fun _ h => h) m1) rfl f1 f2 (hts _ m2) (hts _ m3) m4 ⟨f3, f4⟩, hts _ m5, hts _ m6⟩ ⟨ba_blind, hrecv, fun U hU hW => ⟨rfl, lc_pre hC (fun a ha => hS.2.1 a ha (Nat.not_le.mpr ha)) kC sC.1 sC.2 hU hW⟩⟩ rfl hn hl.1 rfl (lv_room hcat) d ⟨Nat.le_of_ble_eq_true rfl, Nat.le_of_ble_eq_true rfl⟩) hS (fun q _ h => hw0 q h) hw0 (fun r u t H1 locs1 ht hvm hw hB hz1 hk1 hS1 => ?_)
  cases hw
  exact g H1 locs1 ls (by rw [← ht]; exact hB) (lc_kept (T := ba_tM) (T' := ba_tC) (w := wM) (w' := wC) hM hk1 (fun i j hi hj => dj i j hi hj)) hS1 hl
theorem lc_callML {idx n maxL : Nat} {y : MethodName} {bytes : ByteArray} {ret : Option FieldType} {rm' : Room} {As : List Value} {τ' : ba_St} {st0 : List Value} {v : Int64} (V : lc_V wC wM X) (d : decode code pc = .ok (.invokevirtual idx, 3)) (M : ba_MV ba_tM R_law idx n 6 y bytes maxL ret) (K : ∀ l, ba_CL ba_tM wM l y bytes maxL ret rm' (.ref (wM.1 0) :: As) τ (v, τ')) (hst : st0 = As.reverse ++ .ref (wM.1 0) :: st ∧ As.length = n) (hfit : rm'.cells = 0 ∧ rm'.slots = 0 ∧ rm'.frames + 1 ≤ room_1.frames ∧ 8 + (maxL + 11) + rm'.locals ≤ room_1.locals) (hcat : (st.map fun v => v.category).sum ≤ 8) (g : lc_G wC wM X σ τ' (pc + 3) lv (.long v :: st)) : lc_G wC wM X σ τ pc lv st0 := by
  obtain ⟨p, l, e, s, m, below, meth, c, b, L, xs⟩ := X
  obtain ⟨hL, C0, jC, jM, rC, rM, dj, kC, kM, sC, sM⟩ := V
  have hts := lc_tb C0
  obtain ⟨hx, hb, hr, hml, hown, -, hX, hbl, hlocks, hgv⟩ := C0
  obtain ⟨f1, f2, f3, f4⟩ := hfit
  intro H locs ls hC hM hS hl
  obtain ⟨⟨m1, m2, m3, m4⟩, m5, m6, F, N, m7⟩ := M
  obtain ⟨hst, hn⟩ := hst
  subst hst
  have hw0 : ∀ q, ba_A ba_tM wM q → s.heap.size ≤ q := fun q z => by
    obtain ⟨k, hk, e⟩ := z
    rw [e]; exact rM k hk
  obtain ⟨fs, he⟩ : ∃ fs, (ba_ws ba_tM wM τ)[0]? = some (wM.1 0, .inr (6, fs)) := ⟨_, by rw [ba_ws_at ba_sModel.1, ba_sModel.2]; rfl⟩
  have hrecv : ∃ cellB : Cell, H[wM.1 0]? = some cellB ∧ cellB.vm.isStatics = false ∧ s.vm.findClass y.cls = some cellB.cls := va_recv kM hM (ci := 6) (q0 := 0) m7 he
  refine va_calll (va_runV (C := y.cls) (As := As) (rest := st) (Ts := ba_tb) ⟨hx, hb, hml, hown, hts⟩ (K l) ⟨callB_of n hts (ba_good (fun _ h => h) m1) rfl f1 f2 (hts _ m2) (hts _ m3) m4 ⟨f3, f4⟩, hts _ m5, hts _ m6⟩ ⟨ba_blind, hrecv, fun U hU hW => ⟨rfl, lc_pre hM (fun a ha => hS.2.1 a ha (Nat.not_le.mpr ha)) kM sM.1 sM.2 hU hW⟩⟩ rfl hn hl.1 rfl (lv_room hcat) d ⟨Nat.le_of_ble_eq_true rfl, Nat.le_of_ble_eq_true rfl⟩) hS (fun q _ h => hw0 q h) hw0 (fun r u t H1 locs1 ht hvm hw hB hz1 hk1 hS1 => ?_)
  cases hw
  exact g H1 locs1 ls (lc_kept (T := ba_tC) (T' := ba_tM) (w := wC) (w' := wM) hC hk1 (fun i j hi hj z => dj j i hj hi z.symm)) (by rw [← ht]; exact hB) hS1 hl
theorem lc_callMI {idx n maxL : Nat} {y : MethodName} {bytes : ByteArray} {ret : Option FieldType} {rm' : Room} {As : List Value} {τ' : ba_St} {st0 : List Value} {v : Int32} (V : lc_V wC wM X) (d : decode code pc = .ok (.invokevirtual idx, 3)) (M : ba_MV ba_tM R_law idx n 6 y bytes maxL ret) (K : ∀ l, ba_CI ba_tM wM l y bytes maxL ret rm' (.ref (wM.1 0) :: As) τ (v, τ')) (hst : st0 = As.reverse ++ .ref (wM.1 0) :: st ∧ As.length = n) (hfit : rm'.cells = 0 ∧ rm'.slots = 0 ∧ rm'.frames + 1 ≤ room_1.frames ∧ 8 + (maxL + 11) + rm'.locals ≤ room_1.locals) (hcat : (st.map fun v => v.category).sum ≤ 8) (g : lc_G wC wM X σ τ' (pc + 3) lv (.int v :: st)) : lc_G wC wM X σ τ pc lv st0 := by
  obtain ⟨p, l, e, s, m, below, meth, c, b, L, xs⟩ := X
  obtain ⟨hL, C0, jC, jM, rC, rM, dj, kC, kM, sC, sM⟩ := V
  have hts := lc_tb C0
  obtain ⟨hx, hb, hr, hml, hown, -, hX, hbl, hlocks, hgv⟩ := C0
  obtain ⟨f1, f2, f3, f4⟩ := hfit
  intro H locs ls hC hM hS hl
  obtain ⟨⟨m1, m2, m3, m4⟩, m5, m6, F, N, m7⟩ := M
  obtain ⟨hst, hn⟩ := hst
  subst hst
  have hw0 : ∀ q, ba_A ba_tM wM q → s.heap.size ≤ q := fun q z => by
    obtain ⟨k, hk, e⟩ := z
    rw [e]; exact rM k hk
  obtain ⟨fs, he⟩ : ∃ fs, (ba_ws ba_tM wM τ)[0]? = some (wM.1 0, .inr (6, fs)) := ⟨_, by rw [ba_ws_at ba_sModel.1, ba_sModel.2]; rfl⟩
  have hrecv : ∃ cellB : Cell, H[wM.1 0]? = some cellB ∧ cellB.vm.isStatics = false ∧ s.vm.findClass y.cls = some cellB.cls := va_recv kM hM (ci := 6) (q0 := 0) m7 he
  refine va_calli (va_runV (C := y.cls) (As := As) (rest := st) (Ts := ba_tb) ⟨hx, hb, hml, hown, hts⟩ (K l) ⟨callB_of n hts (ba_good (fun _ h => h) m1) rfl f1 f2 (hts _ m2) (hts _ m3) m4 ⟨f3, f4⟩, hts _ m5, hts _ m6⟩ ⟨ba_blind, hrecv, fun U hU hW => ⟨rfl, lc_pre hM (fun a ha => hS.2.1 a ha (Nat.not_le.mpr ha)) kM sM.1 sM.2 hU hW⟩⟩ rfl hn hl.1 rfl (lv_room hcat) d ⟨Nat.le_of_ble_eq_true rfl, Nat.le_of_ble_eq_true rfl⟩) hS (fun q _ h => hw0 q h) hw0 (fun r u t H1 locs1 ht hvm hw hB hz1 hk1 hS1 => ?_)
  cases hw
  exact g H1 locs1 ls (lc_kept (T := ba_tC) (T' := ba_tM) (w := wC) (w' := wM) hC hk1 (fun i j hi hj z => dj j i hj hi z.symm)) (by rw [← ht]; exact hB) hS1 hl
theorem lc_callCL {idx n maxL : Nat} {y : MethodName} {bytes : ByteArray} {ret : Option FieldType} {rm' : Room} {As : List Value} {σ' : ba_St} {st0 : List Value} {v : Int64} (V : lc_V wC wM X) (d : decode code pc = .ok (.invokevirtual idx, 3)) (M : ba_MV ba_tC R_law idx n 5 y bytes maxL ret) (K : ∀ l, ba_CL ba_tC wC l y bytes maxL ret rm' (.ref (wC.1 0) :: As) σ (v, σ')) (hst : st0 = As.reverse ++ .ref (wC.1 0) :: st ∧ As.length = n) (hfit : rm'.cells = 0 ∧ rm'.slots = 0 ∧ rm'.frames + 1 ≤ room_1.frames ∧ 8 + (maxL + 11) + rm'.locals ≤ room_1.locals) (hcat : (st.map fun v => v.category).sum ≤ 8) (g : lc_G wC wM X σ' τ (pc + 3) lv (.long v :: st)) : lc_G wC wM X σ τ pc lv st0 := by
  obtain ⟨p, l, e, s, m, below, meth, c, b, L, xs⟩ := X
  obtain ⟨hL, C0, jC, jM, rC, rM, dj, kC, kM, sC, sM⟩ := V
  have hts := lc_tb C0
  obtain ⟨hx, hb, hr, hml, hown, -, hX, hbl, hlocks, hgv⟩ := C0
  obtain ⟨f1, f2, f3, f4⟩ := hfit
  intro H locs ls hC hM hS hl
  obtain ⟨⟨m1, m2, m3, m4⟩, m5, m6, F, N, m7⟩ := M
  obtain ⟨hst, hn⟩ := hst
  subst hst
  have hw0 : ∀ q, ba_A ba_tC wC q → s.heap.size ≤ q := fun q z => by
    obtain ⟨k, hk, e⟩ := z
    rw [e]; exact rC k hk
  obtain ⟨fs, he⟩ : ∃ fs, (ba_ws ba_tC wC σ)[0]? = some (wC.1 0, .inr (5, fs)) := ⟨_, by rw [ba_ws_at ba_sBag.1, ba_sBag.2]; rfl⟩
  have hrecv : ∃ cellB : Cell, H[wC.1 0]? = some cellB ∧ cellB.vm.isStatics = false ∧ s.vm.findClass y.cls = some cellB.cls := va_recv kC hC (ci := 5) (q0 := 0) m7 he
  refine va_calll (va_runV (C := y.cls) (As := As) (rest := st) (Ts := ba_tb) ⟨hx, hb, hml, hown, hts⟩ (K l) ⟨callB_of n hts (ba_good (fun _ h => h) m1) rfl f1 f2 (hts _ m2) (hts _ m3) m4 ⟨f3, f4⟩, hts _ m5, hts _ m6⟩ ⟨ba_blind, hrecv, fun U hU hW => ⟨rfl, lc_pre hC (fun a ha => hS.2.1 a ha (Nat.not_le.mpr ha)) kC sC.1 sC.2 hU hW⟩⟩ rfl hn hl.1 rfl (lv_room hcat) d ⟨Nat.le_of_ble_eq_true rfl, Nat.le_of_ble_eq_true rfl⟩) hS (fun q _ h => hw0 q h) hw0 (fun r u t H1 locs1 ht hvm hw hB hz1 hk1 hS1 => ?_)
  cases hw
  exact g H1 locs1 ls (by rw [← ht]; exact hB) (lc_kept (T := ba_tM) (T' := ba_tC) (w := wM) (w' := wC) hM hk1 (fun i j hi hj => dj i j hi hj)) hS1 hl
end LC
