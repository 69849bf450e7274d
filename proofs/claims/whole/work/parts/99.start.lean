/-! THE CLAIM OUT OF ONE WALK OF THE LAW'S BODY. Your part is whole_start (and what it stands on); all else here is the same for every law, but numbers. -/
def R_law : String := "BalancedLineLaw"
def lw_P (b : Addr) (xs : List Int32) (args : Array Value) (s : State) : Prop := args = #[.ref b] ∧ s.IntsAt b xs ∧ xs.length ≤ 2048 ∧ (Jvm.Cond.and given_1 narrow_1).before args s = true
def lw_Q (_ : Array Value) (s : State) (o : Outcome) (t : State) : Prop := o = .returned (some (.int 1)) ∧ Framed s o t [] 600000 7302250
def lw_Z (below : List Frame) (a : Array Value) (s : State) : State → Prop := fun t => ∃ o, t.status = .running ∧ Ended t below o ∧ lw_Q a s o t
/-- the law's own end, with 1 on the stack, nothing written that was there before, its room as the claim has it -/
theorem lw_ret {p : Program} {l : Launch} {e : Env} {s : State} {m : MethodId} {below : List Frame} {meth : Method} {c : Code} {b : Nat} (hx : p.tables.exec = Jvm.exec) (hb : c.code = code) (hr : meth.sig.returnType = ret) (hlocks : meth.locks = false) {pc : Nat} {H : Heap} {ls : Array Slot} (hdg : decode code pc = .ok (.ireturn, 1)) : W p l e room_1 s m #[Value.ref b] below meth c H [] 600000 7302250 (lw_Z below #[Value.ref b] s) (F0 m pc ls [.int 1]) := by
  intro T hT X
  obtain ⟨fs, hret, hrun, hended, hW, hframe⟩ := X.leave (v := some (.int 1)) (hlocks := hlocks) (fun h => by rw [hr] at h; cases h)
  have hmeth' : T.vm.method? m = some meth := X.method'
  refine ⟨T.setFrames fs, ?_, .returned (some (.int 1)), hrun, hended, rfl, ⟨_, rfl⟩, hW, hframe⟩
  jvm_step X.here [X.here.top, hx, hb, hdg, hmeth', hr, ret, narrow_b1]
  (try refine ⟨rfl, ?_⟩); (try refine ⟨rfl, ?_⟩)
  first | (intro acts; rw [hret _ acts rfl rfl rfl]) | rw [hret _ _ rfl rfl rfl]
  exact Steps.refl _
/-- what holds at the law's entry: the machine, the code, the tables' words (any of lw_tbl by 'hts w (by decide +kernel)'), the script of L ints xs at the cell b, what the Statement gives of the start (any of its parts by flat_of_before) -/
def lw_At (p : Program) (s : State) (m : MethodId) (meth : Method) (c : Code) (b L : Nat) (xs : Nat → Int32) : Prop :=
  p.tables.exec = Jvm.exec ∧ c.code = code ∧ meth.sig.returnType = ret ∧ c.maxLocals = 4 ∧ s.vm.findClass R_law = some m.cls ∧ (∀ w ∈ lw_tbl, w.before #[Value.ref b] s = true) ∧ va_X b L xs s s.heap ∧ b < s.heap.size ∧ meth.locks = false ∧ (Jvm.Cond.and given_1 narrow_1).before #[Value.ref b] s = true
-- ===== YOUR PART BEGINS =====
theorem room_le {s : State} {pl : Platform} {R R' : Room} (h : s.hasRoom pl R = true) (h1 : R'.frames ≤ R.frames) (h2 : R'.cells ≤ R.cells) (h3 : R'.slots ≤ R.slots) (h4 : R'.locals ≤ R.locals) : s.hasRoom pl R' = true := by
  simp only [State.hasRoom, Bool.and_eq_true, decide_eq_true_eq] at h ⊢
  obtain ⟨⟨⟨⟨a1, a2, a3, a4, a5, a6⟩, a7⟩, a8⟩, a9⟩ := h
  exact ⟨⟨⟨⟨by omega, by omega, by omega, by omega, by omega, a6⟩, by omega⟩, by omega⟩, a9⟩
/-- the walk, in more room, to a weaker end -/
theorem W.into {p : Program} {l : Launch} {e : Env} {R R' : Room} {s : State} {m : MethodId} {args : Array Value} {below : List Frame} {meth : Method} {c : Code} {H : Heap} {locs : List Loc} {cells slots : Nat} {Q Q' : State → Prop} {g : JFrame} (kk : W p l e R' s m args below meth c H locs cells slots Q' g) (h1 : R'.frames ≤ R.frames) (h2 : R'.cells ≤ R.cells) (h3 : R'.slots ≤ R.slots) (h4 : R'.locals ≤ R.locals) (hQ : ∀ t, Q' t → Q t) : W p l e R s m args below meth c H locs cells slots Q g := by
  intro T hT X
  obtain ⟨t, a1, b1⟩ := kk T hT ⟨X.admits, X.cas, X.clock, X.frames, room_le X.room h1 h2 h3 h4, X.hears, X.method, X.code, X.here, X.tail, X.warmed, X.limits, X.bytes, X.same⟩
  exact ⟨t, a1, hQ t b1⟩
theorem rel_size {h : hc_H} {b sl : Nat} (hr : rel h b sl) : h.2.1 ≤ b + 96 ∧ h.2.2 ≤ sl + 41003 := by
  obtain ⟨len, L', n, C, T, B, A, J', S, z, V, sp, fs, X, Q, ⟨-, -, -, -, -, so, bo, st, lc, bp, bc, H, K, ⟨ln, N, me, ⟨-, -, -, hy⟩, -⟩, -⟩, -⟩ := hr
  rcases hy with ⟨-, -, e⟩ | ⟨-, -, e⟩
  · have e1 : h.2.1 = b + 83 := congrArg Prod.fst e
    have e2 : h.2.2 = sl := congrArg Prod.snd e
    omega
  · have e1 : h.2.1 = b + 83 + 13 := congrArg Prod.fst e
    have e2 : h.2.2 = sl + 41003 := congrArg Prod.snd e
    omega
theorem lF_get (j : Nat) : (lF.map nI).getD j 0 = nI (ltF j) := by
  unfold ltF
  rw [List.getD_eq_getElem?_getD, List.getD_eq_getElem?_getD, List.getElem?_map]
  cases lF[j]? <;> rfl
/-- what the start gives of the text -/
theorem text_at {s : State} {b : Nat} (hts : ∀ w ∈ lw_tbl, w.before #[Value.ref b] s = true) (hgv : (Jvm.Cond.and given_1 narrow_1).before #[Value.ref b] s = true) : ∃ (q v : Nat) (f : Option Nat), phS q v f s.heap.size s := by
  have hs := flat_of_before _ hgv
  have hA : ∀ a : Nat, a < s.heap.size → ¬ hc_A s.heap.size a := fun a ha h => Nat.not_le.mpr ha h
  obtain ⟨adK, adV, hE, hT⟩ := vk_Sof (args := #[Value.ref b]) (s := s) (N := 1) (tm := fun _ => .string "BalancedLine" 33) (len := [73]) (byt := [lF.map nI]) (A := hc_A s.heap.size) 
    (fun i hi => by
      have : i = 0 := by omega
      subst this
      decide)
    (fun i _ => hs _ (by decide +kernel)) (fun i _ => hs _ (by decide +kernel)) (fun i _ => hs _ (by decide +kernel))
    (fun i hi => by
      have : i = 0 := by omega
      subst this
      exact hs _ (by decide +kernel))
    (fun i hi j hj => by
      have : i = 0 := by omega
      subst this
      exact hs _ ((show ∀ j, j < 73 → Cond.eq (.elem (.field (.string "BalancedLine" 33) "java/lang/String" "value" "[B") (.int (Int32.ofNat j))) (.int ((lF.map nI).getD j 0)) ∈ flatC (Jvm.Cond.and given_1 narrow_1) by decide +kernel) j hj))
    (fun i j hi hj hij => absurd (by omega : i = j) hij) hA
  have hR : vk_R "BalancedLine" 33 txF (adK 0) s := vk_R.of (A := #[Value.ref b]) (hts (.stringRef "BalancedLine" 33 txF) (by decide +kernel)) (hT 0 (by omega))
  obtain ⟨k1, k2, k3, k4⟩ := hE.1 0 (by omega)
  have k4 : va_T .byte (adV 0) 73 (fun j => .int (nI (ltF j))) (hc_A s.heap.size) s s.heap := by
    have e : (fun j => Value.int (([lF.map nI].getD 0 []).getD j 0)) = fun j => Value.int (nI (ltF j)) := funext fun j => congrArg Value.int (lF_get j)
    rw [← e]
    exact k4
  have z1 : va_Z "java/lang/String" "COMPACT_STRINGS" "Z" (.int 1) (hc_A s.heap.size) s s.heap := va_Zof (hts (.laysStatic "java/lang/String" "COMPACT_STRINGS" "Z") (by decide +kernel)) (hts (.initialized "java/lang/String") (by decide +kernel)) (va_eqt (hs _ (by decide +kernel))) hA
  rcases va_Zqof (hts (.laysStatic "jdk/internal/util/Preconditions" "SIOOBE_FORMATTER" "Ljava/util/function/BiFunction;") (by decide +kernel)) (hts (.initialized "jdk/internal/util/Preconditions") (by decide +kernel)) (hs (.isRef (.static "jdk/internal/util/Preconditions" "SIOOBE_FORMATTER" "Ljava/util/function/BiFunction;")) (by decide +kernel)) hA with z2 | ⟨t, z2⟩
  · exact ⟨adK 0, adV 0, none, hR, k1, k2, k3, k4, z1, z2⟩
  · exact ⟨adK 0, adV 0, some t, hR, k1, k2, k3, k4, z1, z2⟩
/-- what the start gives of the classes -/
theorem world_at {s : State} {b : Nat} (hts : ∀ w ∈ lw_tbl, w.before #[Value.ref b] s = true) : ∃ (D : va_G) (tc : Nat → ClassId), va_K D hc_cls (hc_T tc) s ∧ hc_N s := by
  have hg : ∀ w ∈ lw_g, w.before #[Value.ref b] s = true := fun w hw => hts w (List.mem_filter.mp hw).1
  obtain ⟨c0, i0, k0⟩ := u_known (C := RX0) (T := TX0) (N := 16) (n := 16) hg inG_0 (hts (.instantiable RX0 16) (by decide +kernel))
  obtain ⟨c1, i1, k1⟩ := u_known (C := RX1) (T := TX1) (N := 2) (n := 2) hg inG_1 (hts (.instantiable RX1 2) (by decide +kernel))
  obtain ⟨c2, i2, k2⟩ := u_known (C := RX2) (T := TX2) (N := 7) (n := 7) hg inG_2 (hts (.instantiable RX2 7) (by decide +kernel))
  obtain ⟨c3, i3, k3⟩ := u_known (C := RX3) (T := TX3) (N := 2) (n := 2) hg inG_3 (hts (.instantiable RX3 2) (by decide +kernel))
  obtain ⟨c4, i4, k4⟩ := u_known (C := RX4) (T := TX4) (N := 12) (n := 12) hg inG_4 (hts (.instantiable RX4 12) (by decide +kernel))
  obtain ⟨c5, i5, k5⟩ := u_known (C := RX5) (T := TX5) (N := 5) (n := 5) hg inG_5 (hts (.instantiable RX5 5) (by decide +kernel))
  obtain ⟨c6, i6, k6⟩ := u_known (C := RX6) (T := TX6) (N := 15) (n := 15) hg inG_6 (hts (.instantiable RX6 15) (by decide +kernel))
  obtain ⟨t0, a0, d0, f0, g0, h0⟩ := Cond.arrayClass_spec (hts (.arrayClass .int) (by decide +kernel))
  obtain ⟨t1, a1, d1, f1, g1, h1⟩ := Cond.arrayClass_spec (hts (.arrayClass .boolean) (by decide +kernel))
  obtain ⟨t2, a2, d2, f2, g2, h2⟩ := Cond.arrayClass_spec (hts (.arrayClass .long) (by decide +kernel))
  obtain ⟨t3, a3, d3, f3, g3, h3⟩ := Cond.arrayClass_spec (hts (.arrayClass .char) (by decide +kernel))
  have hao : (Cond.arrayOver (.object "BalancedLine$Plan")).before #[Value.ref b] s = true := hts _ (by decide +kernel)
  obtain ⟨d4, t4, a4, f4, -, g4, h4, j4⟩ := Cond.arrayOver_spec hao
  refine ⟨(fun k => if k = 0 then c0 else if k = 1 then c1 else if k = 2 then c2 else if k = 3 then c3 else if k = 4 then c4 else if k = 5 then c5 else c6, fun k => if k = 0 then i0 else if k = 1 then i1 else if k = 2 then i2 else if k = 3 then i3 else if k = 4 then i4 else if k = 5 then i5 else i6), fun k => if k = 0 then t0 else if k = 1 then t1 else if k = 2 then t2 else if k = 3 then t3 else t4, ⟨fun k q hq => ?_, fun k q hk => ?_⟩, ?_⟩
  · match k, hq with
    | 0, hq => cases hq; exact k0
    | 1, hq => cases hq; exact k1
    | 2, hq => cases hq; exact k2
    | 3, hq => cases hq; exact k3
    | 4, hq => cases hq; exact k4
    | 5, hq => cases hq; exact k5
    | 6, hq => cases hq; exact k6
    | k + 7, hq => simp [hc_cls] at hq
  · match k, hk with
    | 0, hk => cases hk; exact ⟨fun n z => ⟨fun k h => (by cases h), a0, g0, d0, h0⟩, f0⟩
    | 1, hk => cases hk; exact ⟨fun n z => ⟨fun k h => (by cases h), a1, g1, d1, h1⟩, f1⟩
    | 2, hk => cases hk; exact ⟨fun n z => ⟨fun k h => (by cases h), a2, g2, d2, h2⟩, f2⟩
    | 3, hk => cases hk; exact ⟨fun n z => ⟨fun k h => (by cases h), a3, g3, d3, h3⟩, f3⟩
    | 4, hk => cases hk; exact ⟨fun n z => ⟨fun k h => (by cases h), a4, g4, d4, h4⟩, ⟨a4, d4, g4, h4, f4, j4⟩⟩
    | k + 5, hk => simp [hc_T] at hk
  · exact ⟨va_Nw.of rfl (hts _ (by decide +kernel)), va_Nw.of rfl (hts _ (by decide +kernel)), va_Nw.of rfl (hts _ (by decide +kernel)), va_Nw.of rfl (hts _ (by decide +kernel)), va_Nw.of rfl (hts _ (by decide +kernel)), va_AO.of hao⟩
/-- from the entry, for every script of at most 2048 ints, the law comes to its end with true -/
theorem whole_start {p : Program} {e : Env} {s : State} {m : MethodId} {below : List Frame} {meth : Method} {c : Code} (l : Launch) (hflags : l.flags = flags0) {b L : Nat} {xs : Nat → Int32} (hL : L ≤ 2048) (C0 : lw_At p s m meth c b L xs) (hcode : (Jvm.Cond.code x code maxLocals ret).before #[Value.ref b] s = true) (hnam : meth.name = x.name) : W p l e room_1 s m #[Value.ref b] below meth c s.heap [] 0 0 (lw_Z below #[Value.ref b] s) (entryFrame m ([Value.ref b] : List Value).toArray 4) := by
  obtain ⟨hx, hb, hr, hml, hown, hts, hX, hbl, hlocks, hgv⟩ := id C0
  have hg : ∀ w ∈ lw_g, w.before #[Value.ref b] s = true := fun w hw => hts w (List.mem_filter.mp hw).1
  obtain ⟨q, v, f, hph⟩ := text_at hts hgv
  obtain ⟨D, tc, hK, hN⟩ := world_at hts
  have hT : va_T .int b L (fun j => .int (xs j)) (hc_A s.heap.size) s s.heap := by
    obtain ⟨scr, x1, x2, x3, x4, x5⟩ := hX
    exact ⟨scr, x1, x2, x3, Nat.le_of_eq x4.symm, by rw [x4], x5, fun z => Nat.not_le.mpr hbl z⟩
  obtain ⟨hf, hrel, hcx⟩ := law_cx (q := q) (v := v) (f := f) (b0 := b) (xs := xs) (b := s.heap.size) (s0 := 0) (h0 := (fun _ => none, s.heap.size, 0)) hL rfl
  obtain ⟨z1, z2⟩ := rel_size hrel
  have hl := lv_entry ([.ref b]) (n := 4) (Nat.le_of_ble_eq_true rfl)
  rw [lg_entry_eq]
  have K := hcx.2 p l e s m #[Value.ref b] below meth c D tc s.heap.size ⟨hx, hb, hr, hml, fun w hw => by
      rcases List.mem_cons.mp hw with rfl | hw
      · exact hcode
      · exact hg w hw, hown, hlocks, hnam, hK, hN, Nat.le_refl _, hph, hT⟩ (Nat.le_refl _) (Nat.le_refl _) s.heap [] _ ⟨rfl, Nat.le_refl _, fun a e h => by cases h⟩ va_S.rf ⟨hl.1, hl.2.1, fun i v hi => hl.2.2 (i, v) (by have := elv_args [.ref b] 0 i v (lget_app (lv := [some (.ref b)]) (k := 3) hi); rwa [Nat.zero_add] at this)⟩
  rw [Nat.sub_self, Nat.sub_self] at K
  refine K.into (Nat.le_refl _) (show hf.2.1 - s.heap.size ≤ 600000 by omega) (show hf.2.2 - 0 ≤ 7302250 by omega) (Nat.le_refl _) ?_
  rintro t ⟨o, t1, t2, ⟨t3, -, -⟩, Ls, ⟨t4, t5, y1, y2, y3, y4, y5, y6⟩, t6⟩
  refine ⟨o, t1, t2, t3, t4, t5, y1, y2, Nat.le_trans y3 (Nat.add_le_add_left (show hf.2.1 - s.heap.size ≤ 600000 by omega) _), y4, Nat.le_trans y5 (show hf.2.2 - 0 ≤ 7302250 by omega), fun a ca hca => ?_⟩
  obtain ⟨ca', w1, w2, w3, w4⟩ := y6 a ca hca
  refine ⟨ca', w1, w2, w3, fun i _ => w4 i (fun hm => ?_)⟩
  exact Nat.not_le.mpr (Array.getElem?_eq_some_iff.mp hca).1 (t6 _ hm)
-- ===== YOUR PART ENDS =====
set_option maxHeartbeats 4000000 in
theorem lw_walk (l : Launch) (hflags : l.flags = flags0) (b : Addr) (xs : List Int32) : MetFree l x (headSpec (Jvm.Cond.code x code maxLocals ret :: tables_1) room_1) (lw_P b xs) (fun _ _ _ _ _ => True) lw_Q := by
  refine MetFree.of_bodyS (code := code) (maxLocals := maxLocals) (ret := ret) (by decide) ?_ ?_
  · intro args s m h hn
    obtain ⟨meth, c, h1, h2, h3, h4, h5, h6, -, -⟩ := Cond.code_spec hn (atoms_spec (ws := Jvm.Cond.code x code maxLocals ret :: tables_1) h _ List.mem_cons_self)
    exact ⟨meth, c, h1, h2, h3, h4, h5, h6⟩
  · intro p e s m args below meth c s₁ B hml0 hP _
    obtain ⟨rfl, hx, hbd, hgv⟩ := hP
    obtain ⟨scr, harrAt, hlist, hof, hsmall⟩ := hx
    obtain ⟨hcb, hkn, -, -⟩ := State.arrayAt?_spec harrAt
    have hown : s.vm.findClass R_law = some m.cls := findClass_of_methodNamed B.named
    have hts0 : ∀ c ∈ (Jvm.Cond.code x code maxLocals ret :: tables_1), c.before #[Value.ref b] s = true := atoms_spec (ws := Jvm.Cond.code x code maxLocals ret :: tables_1) B.pre
    have hts : ∀ w ∈ lw_tbl, w.before #[Value.ref b] s = true := k2_hts_sels lw_privs (fun w hw => hts0 w (List.mem_cons_of_mem _ hw)) lw_privs_ok
    have hml : c.maxLocals = 4 := B.maxLocals_eq (hts0 _ List.mem_cons_self)
    have X₀ : Stand p l e room_1 s m #[Value.ref b] below meth c s₁ [] 0 0 := Stand.of_body B
    have hh0 : s₁.heap = s.heap := by rw [B.state]; rfl
    have hsz : scr.slots.size = xs.length := by rw [← Array.length_toList, hlist, List.length_map]
    have hval : ∀ j : Nat, j < xs.length → scr.slots[j]? = some (.int (xs.getD j 0)) := fun j hj => by
      rw [← Array.getElem?_toList, hlist]
      simp [hj]
    have hbl : b < s.heap.size := (Array.getElem?_eq_some_iff.mp hcb).1
    have hX : va_X b xs.length (fun j => xs.getD j 0) s s.heap := ⟨scr, hcb, hof, hkn, hsz, hval⟩
    have K : W p l e room_1 s m #[Value.ref b] below meth c s₁.heap [] 0 0 (lw_Z below #[Value.ref b] s) (entryFrame m ([Value.ref b] : List Value).toArray 4) := by
      rw [hh0]
      exact whole_start l hflags hbd ⟨B.exec, B.bytes, B.returns, hml, hown, hts, hX, hbl, B.notSynchronized, hgv⟩ (hts0 _ List.mem_cons_self) (name_of_methodNamed B.named B.method).1
    obtain ⟨t, a1, o, b1, b2, b3⟩ := K s₁ rfl X₀
    exact ⟨t, o, a1, b1, b2, b3⟩
theorem lw_pre_spec {args : Array Value} {s : State} (h : (Jvm.Cond.and given_1 narrow_1).before args s = true) (hr : rest_1_c.before args s = true) : ∃ (b : Addr) (xs : List Int32), lw_P b xs args s := by
  have hs := flat_of_before _ h
  have hq := flat_of_before _ hr
  have hc : (Cond.count 1).before args s = true := hs _ (by decide +kernel)
  have harr : (Cond.arrayOf (.arg 0) .int).before args s = true := hs _ (by decide +kernel)
  have hle : (Cond.le (.length (.arg 0)) (.int 2048)).before args s = true := hs _ (by decide +kernel)
  have hlen : (Cond.isInt (.length (.arg 0))).before args s = true := hq _ (by decide +kernel)
  have hall : (Cond.all (.arg 0) (.isInt (.elem (.arg 0) (.index 0)))).before args s = true := hq _ (by decide +kernel)
  obtain ⟨b, xs, hb, hx⟩ := State.ints_of_pre rfl harr hlen hall
  have hsm : xs.length < 2 ^ 31 := hx.choose_spec.2.2.2
  have hev : (Term.length (.arg 0)).eval args s none [] s = some (.int xs.length.toInt32) := hx.length_eval hb
  have hv := Cond.le_ints hev (show (Term.int 2048).eval args s none [] s = some (.int 2048) from rfl)
  have hd : xs.length.toInt32 ≤ 2048 := by
    simpa [Cond.before, Cond.holds, hv] using hle
  have hN : xs.length ≤ 2048 := (Int32.ofNat_le_ofNat hsm (by decide)).mp (show Int32.ofNat xs.length ≤ Int32.ofNat 2048 from hd)
  exact ⟨b, xs, Cond.one_arg hc (show args[0]? = some (.ref b) from hb), hx, hN, h⟩
theorem lw_comes (l : Launch) (hflags : l.flags = flags0) : Comes l x (Jvm.Cond.code x code maxLocals ret :: tables_1) room_1 (fun tb e args s => Calls_1 tb e args s ∧ rest_1 tb e args s ∧ Pre_1 tb e args s)
    (fun _ _ args s o t => lw_Q args s o t) := by
  intro p e ha hc hk s m args below hf hfit hheap happ hpre
  obtain ⟨b, xs, hP⟩ := lw_pre_spec hpre.2.2 hpre.2.1
  obtain ⟨k, o, h1, h2, h3, hQ⟩ := lw_walk l hflags b xs p e ha hc hk s m args below hf ((Spec.applies_iff_loose hf).mp happ).1 hP trivial
  exact ⟨k, o, h1, h2, h3, hQ⟩
theorem lw_frame {s t : State} {o : Outcome} {args : Array Value} (h : Framed s o t [] 600000 7302250) :
    Framed s o t (fieldLocs frame_1_writes args s ++ arrayLocs frame_1_arrays args s ++ staticLocs frame_1_statics s) 600000 7302250 := h
theorem lw_limb (L : Cond) (hL : ∀ (args : Array Value) (s t : State), L.after args s (.returned (some (.int 1))) t = true) :
    ArmFor flags0 classFile x code maxLocals ret World_1 tables_1 room_1 Calls_1 rest_1 Pre_1
      (fun tb e a s o t => postC L tb e a s o t ∧ Framed s o t (fieldLocs frame_1_writes a s ++ arrayLocs frame_1_arrays a s ++ staticLocs frame_1_statics s) 600000 7302250) := by
  intro l hflags _ _ p e ha hc hk s m args below hf hfit hheap happ hpre
  obtain ⟨k, o, h1, h2, h3, rfl, hF⟩ := lw_comes l hflags p e ha hc hk s m args below hf hfit hheap happ hpre
  exact ⟨k, _, h1, h2, h3, hL args s _, lw_frame hF⟩
theorem i_vc : Claimed_1_1 ∧ Claimed_1_2 := ⟨lw_limb limb_1_1 (fun args s t => by simp [limb_1_1, Cond.after, Cond.holds, Cond.value]), lw_limb limb_1_2 (fun args s t => Cond.after_iff.mpr (by
  first | (rw [show limb_1_2 = Cond.eq .result (.int 1) from rfl, Cond.eq_ints (x := 1) (y := 1) rfl rfl]; simp; done) | (simp [limb_1_2, Cond.value, Term.eval]; done)))⟩
