-- THE LAYER: a memory of ints, longs, references by the cell's number and the slot; judgements Go (from a place in a method) and Call over it
abbrev Mm : Type := (Nat → Nat → Int32) × (Nat → Nat → Int64) × (Nat → Nat → Option Nat)
def u2 {α : Type} (f : Nat → Nat → α) (i k : Nat) (x : α) : Nat → Nat → α := fun a b => if a = i ∧ b = k then x else f a b
def mI (w : Mm) (i k : Nat) (x : Int32) : Mm := (u2 w.1 i k x, w.2.1, w.2.2)
def mJ (w : Mm) (i k : Nat) (x : Int64) : Mm := (w.1, u2 w.2.1 i k x, w.2.2)
def mR (w : Mm) (i k : Nat) (x : Option Nat) : Mm := (w.1, w.2.1, u2 w.2.2 i k x)
theorem u2_same {α : Type} (f : Nat → Nat → α) (i k : Nat) (x : α) : u2 f i k x i k = x := if_pos ⟨rfl, rfl⟩
theorem u2_cell {α : Type} (f : Nat → Nat → α) {i j : Nat} (k : Nat) (x : α) (h : j ≠ i) (b : Nat) : u2 f i k x j b = f j b := if_neg (fun q => h q.1)
theorem u2_slot {α : Type} (f : Nat → Nat → α) (i : Nat) {k b : Nat} (x : α) (h : b ≠ k) (j : Nat) : u2 f i k x j b = f j b := if_neg (fun q => h q.2)
abbrev zG : Type := va_G × (FieldType → ClassId) × Nat × (Nat → Nat)
/-- the address of a cell; from 100000 on what was there before -/
def ad (g : zG) (i : Nat) : Nat := if i < 100000 then g.2.2.1 + i else g.2.2.2 (i - 100000)
def zv (g : zG) (v : Value) : Value := match v with
  | .ref i => .ref (ad g i)
  | v => v
theorem zv_cat (g : zG) (v : Value) : (zv g v).category = v.category := by cases v <;> rfl
def zl (g : zG) (q : Nat × Value) : Nat × Value := (q.1, zv g q.2)
def fv (g : zG) (w : Mm) (ty : FieldType) (i k : Nat) : Value := match ty with
  | .long => .long (w.2.1 i k)
  | .object _ => va_rf ((w.2.2 i k).map (ad g))
  | .array _ => va_rf ((w.2.2 i k).map (ad g))
  | _ => .int (w.1 i k)
def cellAt (g : zG) (w : Mm) (i : Nat) (H : Heap) : Prop := match SH[i]? with
  | some (.inl ci) => ∃ r : vw_C, zcl[ci]? = some r ∧ t_OB (g.2.2.1 + i) (g.1.1 ci) r.2.2 (g.1.2 ci) H (fun k => fv g w (zft ci k) i k)
  | some (.inr a) => H[g.2.2.1 + i]? = some (arrV (g.2.1 a.1) a.2 (fun k => fv g w a.1 i k))
  | none => False
def zP (g : zG) (n : Nat) (w : Mm) (H : Heap) : Prop := H.size = g.2.2.1 + n ∧ n ≤ NF ∧ ∀ i, i < n → cellAt g w i H
def zA (g : zG) : Nat → Prop := fun q => g.2.2.1 ≤ q
def zat : List FieldType := [.int, .long, .boolean, .array .int, .object "PutOn$Clock", .object "PutOn$Doer", .object "PutOn$Text", .object "PutOn$Sheet"]
def zNest : Cond → Bool
  | .fieldLinkNest .. => true
  | .methodLinkNest .. => true
  | _ => false
def stN : Nat → String
  | 0 => "LEAST"
  | 1 => "MOST"
  | _ => "ABOVE"
def stV : Nat → Nat → Int32
  | 0 => fun k => [-120, 0, 0, -1, 0, 0].getD k 0
  | 1 => fun k => [120, 5, 1, 1439, 9, 63].getD k 0
  | _ => fun k => [-1, 0, 0, 1, 2, 0].getD k 0
/-- what was there before: the static rows of ints -/
def sLen : List Nat := [5, 3, 4, 3, 4, 5, 4, 4, 5, 2, 3, 3]
def sByt : List (List Int32) := [[99, 108, 111, 99, 107], [119, 104, 111], [114, 111, 111, 109], [111, 102, 102], [100, 111, 110, 101], [114, 111, 111, 109, 115], [99, 97, 109, 101], [97, 100, 100, 115], [109, 105, 110, 100, 115], [111, 114], [97, 110, 100], [110, 111, 116]]
def sTx : List String := ["clock", "who", "room", "off", "done", "rooms", "came", "adds", "minds", "or", "and", "not"]
def bfT : String := "Ljava/util/function/BiFunction;"
def prC : String := "jdk/internal/util/Preconditions"
def zS (g : zG) (U : State) (H : Heap) : Prop := vk_S 12 sLen sByt (fun j => ad g (100010 + j)) (fun j => ad g (100030 + j)) (zA g) U H ∧ (∀ j, j < 12 → vk_R "PutOn$Reader" (94 + 2 * j) (sTx.getD j "") (ad g (100010 + j)) U) ∧ va_Z "java/lang/String" "COMPACT_STRINGS" "Z" (.int 1) (zA g) U H ∧ (va_Z prC "SIOOBE_FORMATTER" bfT .null (zA g) U H ∨ va_Z prC "SIOOBE_FORMATTER" bfT (.ref (ad g 100050)) (zA g) U H)
def zX (g : zG) (U : State) (H : Heap) : Prop := (∀ j, j < 3 → va_Z "PutOn" (stN j) "[I" (.ref (ad g (100000 + j))) (zA g) U H ∧ va_T .int (ad g (100000 + j)) 6 (fun k => .int (stV j k)) (zA g) U H) ∧ zS g U H
/-- the class of rows of rows of ints -/
def zII (U : State) : Prop := ∃ (cA cI : ClassId) (k : Class), U.vm.findClass ("[" ++ (FieldType.array .int).toString) = some cA ∧ U.vm.classes[cA]? = some k ∧ k.kind = .array cI (.array .int) ∧ U.vm.findClass (FieldType.array .int).toString = some cI
theorem zII.moved {u U : State} (hvm : u.vm.Alike U.vm) (h : zII u) : zII U := by
  obtain ⟨cA, cI, k, h1, h2, h3, h4⟩ := h
  obtain ⟨k', hk', he⟩ := hvm.2.2 _ _ h2
  exact ⟨cA, cI, k', by rw [hvm.findClass]; exact h1, hk', by rw [he]; exact h3, by rw [hvm.findClass]; exact h4⟩
def zK (g : zG) (U : State) : Prop := va_K g.1 zcl [] U ∧ (∀ ty ∈ zat, ArrOfT U (g.2.1 ty) ty ∧ va_RA U (g.2.1 ty) ty) ∧ (∀ w ∈ lw_tbl, zNest w = true → va_Nw w U) ∧ (∀ C : String, Cond.arrayOver (.object C) ∈ lw_tbl → va_AO C U) ∧ zII U
theorem zK.warm {g : zG} {s U : State} (hW : s.WarmedH U.vm) (h : zK g s) : zK g U := by
  obtain ⟨h1, h2, h3, h4, h5⟩ := h
  refine ⟨va_K.moved hW.alike h1, fun ty ht => ⟨arrOfT_moved hW.alike (h2 ty ht).1, (h2 ty ht).2.moved hW.alike⟩, fun w hw hz => ?_, fun C hC => va_AO.moved hW.alike (h4 C hC), zII.moved hW.alike h5⟩
  have h6 := h3 w hw hz
  cases w <;> first | exact va_Nw.warmF hW h6 | exact va_Nw.warmM hW h6 | (simp [zNest] at hz)
theorem zX.warm {g : zG} {s U : State} {H : Heap} (hW : s.WarmedH U.vm) (h : zX g s H) : zX g U H := ⟨fun j hj => ⟨va_Z.moved hW.alike (h.1 j hj).1, va_T.moved hW.alike (h.1 j hj).2⟩, h.2.1.moved hW.alike, fun j hj => vk_R.warm hW (h.2.2.1 j hj), va_Z.moved hW.alike h.2.2.2.1, h.2.2.2.2.imp (va_Z.moved hW.alike) (va_Z.moved hW.alike)⟩
theorem zX.kept {g : zG} {U : State} {H H1 : Heap} (h : zX g U H) (hq : ∀ a : Nat, a < H.size → ¬ zA g a → H1[a]? = H[a]?) : zX g U H1 := ⟨fun j hj => ⟨va_Z.kept (h.1 j hj).1 hq, va_T.kept (h.1 j hj).2 hq⟩, h.2.1.kept hq, h.2.2.1, va_Z.kept h.2.2.2.1 hq, h.2.2.2.2.imp (fun z => va_Z.kept z hq) (fun z => va_Z.kept z hq)⟩
/-- a method: its name, code, words of locals, the type that it answers -/
abbrev zM : Type := MethodName × ByteArray × Nat × Option FieldType
def zC (d : Nat) (M : zM) (n0 nE : Nat) (p : Program) (R : Room) (s : State) (m : MethodId) (args : Array Value) (meth : Method) (c : Code) (g : zG) : Prop :=
  p.tables.exec = Jvm.exec ∧ c.code = M.2.1 ∧ c.maxLocals = M.2.2.1 ∧ s.vm.findClass M.1.cls = some m.cls ∧ (∀ w ∈ zT, w.before args s = true) ∧ (zK g s ∧ zX g s s.heap) ∧ (d ≤ R.frames ∧ 45 * d ≤ R.locals ∧ nE - n0 ≤ R.cells ∧ zs nE - zs n0 ≤ R.slots ∧ n0 ≤ nE) ∧ (M.1.name = "<init>" → meth.name = "<init>") ∧ g.2.2.1 ≤ s.heap.size
def zR (M : zM) (pc : Nat) (r : Option Value) : Prop := match r with
  | none => M.2.2.2 = none ∧ decode M.2.1 pc = .ok (.return_, 1)
  | some (.int x) => decode M.2.1 pc = .ok (.ireturn, 1) ∧ ∃ ty, M.2.2.2 = some ty ∧ narrow ty (.int x) = .int x
  | some (.long _) => decode M.2.1 pc = .ok (.lreturn, 1) ∧ M.2.2.2 = some .long
  | some (.ref _) => decode M.2.1 pc = .ok (.areturn, 1) ∧ ∃ C, M.2.2.2 = some (.object C)
  | _ => False
def zE (M : zM) (n0 nE : Nat) (g : zG) (p : Program) (l : Launch) (e : Env) (R : Room) (s : State) (m : MethodId) (args : Array Value) (below : List Frame) (meth : Method) (c : Code) (Z : State → Prop) (Q : Option Value → Mm → Prop) : Prop :=
  ∀ (r : Option Value) (w : Mm) (H : Heap) (locs : List Loc) (ls : Array Slot) (pc : Nat), zP g nE w H → va_S (zA g) s.heap H locs → Q r w → zR M pc r → W p l e R s m args below meth c H locs (nE - n0) (zs nE - zs n0) Z (F0 m pc ls ((r.map (zv g)).toList))
/-- from this place the method comes to its end, and Q holds of its answer and the memory then -/
def Go (d : Nat) (M : zM) (n0 nE n : Nat) (pc : Nat) (L : List (Nat × Value)) (S : List Value) (w : Mm) (Q : Option Value → Mm → Prop) : Prop :=
  ∀ (p : Program) (l : Launch) (e : Env) (R : Room) (s : State) (m : MethodId) (args : Array Value) (below : List Frame) (meth : Method) (c : Code) (g : zG) (Z : State → Prop),
    zC d M n0 nE p R s m args meth c g → zE M n0 nE g p l e R s m args below meth c Z Q →
    ∀ (H : Heap) (locs : List Loc) (ls : Array Slot), zP g n w H → va_S (zA g) s.heap H locs → lv_has ls M.2.2.1 (L.map (zl g)) →
      W p l e R s m args below meth c H locs (n - n0) (zs n - zs n0) Z (F0 m pc ls (S.map (zv g)))
def zws (M : zM) : List Cond := Cond.code M.1 M.2.1 M.2.2.1 M.2.2.2 :: zT
def zrm (d n0 nE : Nat) : Room := { frames := d, cells := nE - n0, slots := zs nE - zs n0, locals := 45 * d }
def zQc (g : zG) (nE : Nat) (Q : Option Value → Mm → Prop) : Array Value → State → Outcome → State → Prop := fun _ st o t =>
  (∃ (r : Option Value) (w : Mm), o = .returned (r.map (zv g)) ∧ Q r w ∧ zP g nE w t.heap) ∧ va_F (zA g) st t
def zPc (g : zG) (n0 : Nat) (as : List Value) (w : Mm) : Array Value → State → Prop := va_Pc (as.map (zv g)) (fun U => (zK g U ∧ zX g U U.heap) ∧ zP g n0 w U.heap)
/-- the method, called with these arguments, returns, and Q holds of its answer and the memory then -/
def Call (d : Nat) (M : zM) (n0 nE : Nat) (as : List Value) (w : Mm) (Q : Option Value → Mm → Prop) : Prop :=
  n0 ≤ nE ∧ ∀ (l : Launch) (g : zG), Met l M.1 (zws M) (zrm d n0 nE) (zPc g n0 as w) (zQc g nE Q) (nE - n0) (zs nE - zs n0) (zA g)
theorem lv_args_map (g : zG) : ∀ (as : List Value) (i : Nat), lv_args i (as.map (zv g)) = (lv_args i as).map (zl g)
  | [], _ => rfl
  | v :: as, i => by
    simp only [List.map_cons, lv_args, zv_cat, lv_args_map g as]
    rfl
theorem lg_sl_map (g : zG) (as : List Value) : (lg_sl (as.map (zv g))).length = (lg_sl as).length := by
  induction as with
  | nil => rfl
  | cons v as ih =>
    simp only [lg_sl, List.map_cons, List.flatMap_cons, List.length_append, zv_cat] at ih ⊢
    rw [ih]
    congr 1
    split <;> rfl
set_option maxHeartbeats 1000000 in
theorem call_of_go {d : Nat} {M : zM} {n0 nE : Nat} {as : List Value} {w : Mm} {Q : Option Value → Mm → Prop} (hn : n0 ≤ nE) (hp : plainName M.1.cls = true) (hla : (lg_sl as).length ≤ M.2.2.1) (h : Go d M n0 nE n0 0 (lv_args 0 as) [] w Q) : Call d M n0 nE as w Q := by
  refine ⟨hn, fun l g => ?_⟩
  refine Met.ofW (cc := M.2.1) (maxL := M.2.2.1) (ret := M.2.2.2) hp rfl ?_
  intro p e s m args below meth c s₁ B hml hv
  obtain ⟨rfl, hK, hP⟩ := hv
  have hx := B.exec
  have hb := B.bytes
  have hr := B.returns
  have hts := atoms_spec (ws := zws M) B.pre
  have hown : s.vm.findClass M.1.cls = some m.cls := findClass_of_methodNamed B.named
  have hlocks := B.notSynchronized
  have hin : meth.name = M.1.name := (name_of_methodNamed B.named B.method).1
  have hl := lv_entry (as.map (zv g)) (n := M.2.2.1) (by rw [lg_sl_map]; exact hla)
  rw [lg_entry_eq]
  generalize (lg_sl (as.map (zv g)) ++ List.replicate (M.2.2.1 - (lg_sl (as.map (zv g))).length) Slot.unset).toArray = ls at hl ⊢
  have hG := h p l e (headSpec (zws M) (zrm d n0 nE)).room s m (as.map (zv g)).toArray below meth c g (MQ below (zQc g nE Q) (as.map (zv g)).toArray s (nE - n0) (zs nE - zs n0) (zA g))
    ⟨hx, hb, hml, hown, fun w hw => hts w (List.mem_cons_of_mem _ hw), hK, ⟨Nat.le_refl _, Nat.le_refl _, Nat.le_refl _, Nat.le_refl _, hn⟩, fun q => hin.trans q, by rw [hP.1]; omega⟩ ?_ s.heap [] ls hP va_S.rf (by rw [← lv_args_map]; exact hl)
  · rw [Nat.sub_self, Nat.sub_self] at hG
    exact hG
  · intro r w' H locs ls pc hP' hS hQ hR
    match r, hR with
    | none, hR => exact W.vret hx hb (hr.trans hR.1) (fun t ht _ => ⟨⟨none, w', rfl, hQ, by rw [ht]; exact hP'⟩, hS.F ht⟩) hS.2.2 hR.2
    | some (.int x), hR =>
      obtain ⟨h1, ty, h2, h3⟩ := hR
      exact W.zret hx hb (hr.trans h2) h3 (fun t ht _ => ⟨⟨some (.int x), w', rfl, hQ, by rw [ht]; exact hP'⟩, hS.F ht⟩) hS.2.2 h1
    | some (.long x), hR => exact W.lret hx hb (hr.trans hR.2) (fun t ht _ => ⟨⟨some (.long x), w', rfl, hQ, by rw [ht]; exact hP'⟩, hS.F ht⟩) hS.2.2 hR.1
    | some (.ref a), hR =>
      obtain ⟨h1, C, h2⟩ := hR
      exact W.aret hx hb (hr.trans h2) (Or.inl ⟨C, rfl⟩) (Or.inr ⟨_, rfl⟩) (fun t ht _ => ⟨⟨some (.ref a), w', rfl, hQ, by rw [ht]; exact hP'⟩, hS.F ht⟩) hS.2.2 h1
