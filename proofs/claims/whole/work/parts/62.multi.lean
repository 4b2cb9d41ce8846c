-- a row of rows of ints: 32 rows of 6
section MNA
def mO (c : ClassId) (h0 i : Nat) : Cell := arrV c 32 (fun j => if j < i then .ref (h0 + 1 + j) else .null)
def mN (c : ClassId) : Cell := arrV c 6 (fun _ => .int 0)
theorem mO_set (c : ClassId) (h0 i : Nat) : (mO c h0 i).setSlot i (.ref (h0 + 1 + i)) = mO c h0 (i + 1) := by
  unfold mO
  rw [arrV_store]
  refine congrArg (arrV c 32) (funext fun j => ?_)
  unfold updV
  dsimp only
  by_cases e : j = i
  · subst e
    rw [if_pos rfl, if_pos (by omega)]
  · rw [if_neg e]
    by_cases z : j < i
    · rw [if_pos z, if_pos (by omega)]
    · rw [if_neg z, if_neg (by omega)]
theorem mO_size (c : ClassId) (h0 i : Nat) : (mO c h0 i).slots.size = 32 := arrV_size _ _ _
theorem mN_size (c : ClassId) : (mN c).slots.size = 6 := arrV_size _ _ _
def mFill (s : State) (c cI : ClassId) : Nat → State
  | 0 => s.pushCell (mO c s.heap.size 0)
  | i + 1 => ((mFill s c cI i).pushCell (mN cI)).setCell s.heap.size (mO c s.heap.size (i + 1))
theorem mFill_f (s : State) (c cI : ClassId) : ∀ i, (mFill s c cI i).heap.size = s.heap.size + 1 + i ∧ (mFill s c cI i).heap[s.heap.size]? = some (mO c s.heap.size i) ∧ (mFill s c cI i).vm = s.vm ∧ (mFill s c cI i).slotsUsed = s.slotsUsed + 32 + i * 6
  | 0 => ⟨by simp [mFill], by simp [mFill], rfl, by simp [mFill, mO_size]⟩
  | i + 1 => by
    obtain ⟨a, b, d, u⟩ := mFill_f s c cI i
    have hlt : s.heap.size < (mFill s c cI i).heap.size := by omega
    have hb' : ((mFill s c cI i).pushCell (mN cI)).heap[s.heap.size]? = some (mO c s.heap.size i) := by rw [State.heap_pushCell_of_lt (h := hlt)]; exact b
    refine ⟨?_, State.heap_setCell_self hb', by simp [mFill, d], ?_⟩
    · simp [mFill, State.setCell, a]; omega
    · simp [mFill, u, mN_size, Nat.succ_mul]; omega
theorem mFill_top (s : State) (f : JFrame) (c cI : ClassId) : ∀ i, mFill (s.setTop f) c cI i = (mFill s c cI i).setTop f
  | 0 => rfl
  | i + 1 => by simp only [mFill, mFill_top s f c cI i, State.heap_setTop, State.pushCell_setTop, State.setCell_setTop]
theorem mFill_old (s : State) (c cI : ClassId) {a : Addr} (ha : a < s.heap.size) : ∀ i, (mFill s c cI i).heap[a]? = s.heap[a]?
  | 0 => State.heap_pushCell_of_lt _ _ ha
  | i + 1 => by
    have f1 := (mFill_f s c cI i).1
    have hlt : a < (mFill s c cI i).heap.size := Nat.lt_of_lt_of_le ha (by rw [f1]; omega)
    show (((mFill s c cI i).pushCell (mN cI)).setCell s.heap.size _).heap[a]? = _
    rw [State.heap_setCell_other (Nat.ne_of_gt ha), State.heap_pushCell_of_lt (h := hlt)]
    exact mFill_old s c cI ha i
theorem mFill_row (s : State) (c cI : ClassId) : ∀ i j, j < i → (mFill s c cI i).heap[s.heap.size + 1 + j]? = some (mN cI)
  | 0, _, h => absurd h (Nat.not_lt_zero _)
  | i + 1, j, h => by
    have f1 := (mFill_f s c cI i).1
    show (((mFill s c cI i).pushCell (mN cI)).setCell s.heap.size _).heap[s.heap.size + 1 + j]? = _
    rw [State.heap_setCell_other (show s.heap.size ≠ s.heap.size + 1 + j by omega)]
    by_cases hj : j < i
    · have hlt : s.heap.size + 1 + j < (mFill s c cI i).heap.size := by rw [f1]; omega
      rw [State.heap_pushCell_of_lt (h := hlt)]
      exact mFill_row s c cI i j hj
    · have e : j = i := by omega
      subst e
      rw [← f1]
      exact State.heap_pushCell_size _ _
section WPS
variable {E : CtlPost} {e : Env} {d : Bool} {acts : List Action} {s : State}
theorem m_newArr {c comp : ClassId} {k : Class} {type : FieldType} {len : Nat} {init : Value} (hk : s.vm.classes[c]? = some k) (hkind : k.kind = .array comp type) (hlimit : ¬ len > e.platform.arrayLengthLimit) (hheap : ¬ len * componentBytes type > e.platform.maxHeapBytes) (hfit : fits type init = true) (hdef : init.isDefault = true) {Q : Addr → Pre}
    (h1 : s.heap.size < e.platform.maxCells) (h2 : s.slotsUsed + len ≤ e.platform.maxSlots) (hq : Q s.heap.size d acts (s.pushCell (arrV c len (fun _ => init)))) : wp (Jvm.newArray c len init) Q E e d acts s := by
  have hfits : ∀ i v, (Array.replicate len init)[i]? = some v → s.fitsSlot c .none i v = true := by
    intro i v hv
    simp only [Array.getElem?_replicate] at hv
    split at hv
    · cases hv; simp [State.fitsSlot, State.slotType?, hk, hkind, hfit]
    · cases hv
  have hda : allocActs (Array.replicate len init) s.heap.size acts = acts := by
    have hall : ((Array.replicate len init).all (·.isDefault)) = true := by
      rw [Array.all_replicate]; split <;> simp [hdef]
    unfold allocActs; rw [if_pos hall]
  rw [← arrV_new] at hq
  simp only [Jvm.newArray, Jvm.arrayFits, wp_bind', W.ask, W.ite, hlimit, if_false, wp_pure', W.theClass, hk, hkind, hheap, W.alloc, W.stop, Option.some.injEq, exists_eq_left', Array.size_replicate, hda]
  rw [if_neg (by omega)]
  exact ⟨h1, h2, hfits, hq⟩
theorem m_make1 {cI c0 : ClassId} {kI : Class} (hk : s.vm.classes[cI]? = some kI) (hkind : kI.kind = .array c0 .int) (hl : ¬ 6 > e.platform.arrayLengthLimit) (hh : ¬ 6 * 4 > e.platform.maxHeapBytes) (h1 : s.heap.size < e.platform.maxCells) (h2 : s.slotsUsed + 6 ≤ e.platform.maxSlots) {Q : Addr → Pre} (hq : Q s.heap.size d acts (s.pushCell (mN cI))) : wp (multianewarray.make cI [6]) Q E e d acts s := by
  rw [multianewarray.make]
  simp only [wp_bind', W.ite, show ¬ (6 : Int32) < 0 by decide, if_false, wp_pure', W.theClass, hk, hkind, Option.some.injEq, exists_eq_left']
  exact m_newArr (len := 6) hk hkind hl hh rfl rfl h1 h2 hq
theorem m_make2 {c cI c0 : ClassId} {k kI : Class} (hk : s.vm.classes[c]? = some k) (hkind : k.kind = .array cI (.array .int)) (hkI : s.vm.classes[cI]? = some kI) (hkindI : kI.kind = .array c0 .int) (hl1 : ¬ 32 > e.platform.arrayLengthLimit) (hh1 : ¬ 32 * 4 > e.platform.maxHeapBytes)
    (hc : s.heap.size + 33 ≤ e.platform.maxCells) (hs : s.slotsUsed + 224 ≤ e.platform.maxSlots) {Q : Addr → Pre} (hq : ∀ d' acts', Q s.heap.size d' acts' (mFill s c cI 32)) : wp (multianewarray.make c [32, 6]) Q E e d acts s := by
  have hfind : (([6] : List Int32).find? (· < 0)) = none := by decide
  rw [multianewarray.make]
  simp only [wp_bind', W.ite, show ¬ (32 : Int32) < 0 by decide, if_false, wp_pure', W.theClass, hk, hkind, Option.some.injEq, exists_eq_left']
  refine m_newArr (len := 32) hk hkind hl1 hh1 rfl rfl (by omega) (by omega) ?_
  simp only [hfind]
  rw [ite_self, wp_bind', Std.Legacy.Range.forIn_eq_forIn_range']
  have hsz : ([:((32 : Int32).toNatClampNeg)] : Std.Legacy.Range).size = 32 := by decide
  rw [hsz]
  have e0 : s.pushCell (arrV c 32 fun _ => Value.null) = mFill s c cI 0 := by
    show _ = s.pushCell (mO c s.heap.size 0)
    refine congrArg (State.pushCell s) (congrArg (arrV c 32) (funext fun j => ?_))
    exact (if_neg (Nat.not_lt_zero _)).symm
  show wp (forIn (List.range' 0 32 1) PUnit.unit _) _ E e d acts _
  refine wp_forIn_inv (fun rest s' => ∃ i, i ≤ 32 ∧ rest = List.range' i (32 - i) ∧ s' = mFill s c cI i) _ _ ⟨0, Nat.zero_le _, rfl, e0⟩ ?_ ?_
  · rintro x rest s' d' acts' Q' ⟨i, hi, hl, rfl⟩ hnext
    have hlt : i < 32 := by
      rcases Nat.lt_or_ge i 32 with h | h
      · exact h
      · rw [show 32 - i = 0 from by omega] at hl; simp at hl
    obtain ⟨rfl, hrest⟩ : x = i ∧ rest = List.range' (i + 1) (32 - (i + 1)) := by
      rw [show 32 - i = (32 - (i + 1)) + 1 from by omega, List.range'_succ] at hl
      exact ⟨(List.cons.inj hl).1, (List.cons.inj hl).2⟩
    obtain ⟨f1, f2, f3, f4⟩ := mFill_f s c cI x
    simp only [wp_bind']
    refine m_make1 (by rw [f3]; exact hkI) hkindI (by omega) (by omega) (by rw [f1]; omega) (by rw [f4]; omega) ?_
    have hlt0 : s.heap.size < (mFill s c cI x).heap.size := by rw [f1]; omega
    simp only [wp_bind', W.writeLoc, wp_pure']
    refine ⟨mO c s.heap.size x, by rw [State.heap_pushCell_of_lt (h := hlt0)]; exact f2, (by unfold mO; intro h; cases h), by rw [mO_size]; exact hlt, ?_, hnext _ _ _ ⟨x + 1, hlt, hrest, ?_⟩⟩
    · show State.fitsSlot _ c .none x _ = true
      simp [State.fitsSlot, State.slotType?, f3, hk, hkind]
      rfl
    · rw [f1, mO_set]; rfl
  · rintro s' d' acts' ⟨i, hi, hl, rfl⟩
    have hiN : i = 32 := by
      rcases Nat.lt_or_ge i 32 with h | h
      · rw [show 32 - i = (32 - (i + 1)) + 1 from by omega, List.range'_succ] at hl; cases hl
      · omega
    subst hiN
    simp only [wp_pure']
    exact hq _ _
end WPS
section STD
variable {p : Program} {l : Launch} {e : Env} {R : Room} {s : State} {m : MethodId} {args : Array Value} {below : List Frame} {meth : Method} {c : Code} {T : State} {locs : List Loc} {cells slots : Nat}
theorem m_filled (X : Stand p l e R s m args below meth c T locs cells slots) (cA cI : ClassId) : ∀ i, Stand p l e R s m args below meth c (mFill T cA cI i) (locs ++ (List.range i).map fun j => ⟨T.heap.size, j⟩) (cells + 1 + i) (slots + 32 + i * 6)
  | 0 => by
    have h := X.pushed (mO cA T.heap.size 0)
    rw [mO_size] at h
    simpa [mFill] using h
  | i + 1 => by
    have Xi := m_filled X cA cI i
    obtain ⟨f1, f2, f3, f4⟩ := mFill_f T cA cI i
    have hlt0 : T.heap.size < (mFill T cA cI i).heap.size := by rw [f1]; omega
    have hcell : ((mFill T cA cI i).pushCell (mN cI)).heap[T.heap.size]? = some (mO cA T.heap.size i) := by rw [State.heap_pushCell_of_lt (h := hlt0)]; exact f2
    have h := (Xi.pushed (mN cI)).stored hcell i (.ref (T.heap.size + 1 + i))
    rw [mN_size, mO_set] at h
    have e2 : (locs ++ (List.range (i + 1)).map fun j => (⟨T.heap.size, j⟩ : Loc)) = (locs ++ (List.range i).map fun j => (⟨T.heap.size, j⟩ : Loc)) ++ [⟨T.heap.size, i⟩] := by simp [List.range_succ, List.append_assoc]
    have e3 : slots + 32 + (i + 1) * 6 = slots + 32 + i * 6 + 6 := by omega
    rw [e2, e3]
    exact h
theorem w_mna {H : Heap} {Q : State → Prop} {cc : ByteArray} {pc : Nat} {ls : Array Slot} {rest : List Value} (hx : p.tables.exec = Jvm.exec) (hb : c.code = cc) {own nm : String} {index : Nat} (hown : s.vm.findClass own = some m.cls) (hclink : (Cond.classLink own index nm).before args s = true) {cA cI c0 : ClassId} {kA kI : Class} (hA : s.vm.findClass nm = some cA) (hkA : s.vm.classes[cA]? = some kA) (hkindA : kA.kind = .array cI (.array .int)) (hkI : s.vm.classes[cI]? = some kI) (hkindI : kI.kind = .array c0 .int)
    (hdg : decode cc pc = .ok (.multianewarray index 2, 4)) (hcells : cells + 33 ≤ R.cells) (hslots : slots + 224 ≤ R.slots)
    (kk : ∀ (H1 : Heap) (locs1 : List Loc), H1.size = H.size + 33 → (∀ q, q < H.size → H1[q]? = H[q]?) → H1[H.size]? = some (mO cA H.size 32) → (∀ j, j < 32 → H1[H.size + 1 + j]? = some (mN cI)) → (∀ q ∈ locs1, q ∈ locs ∨ q.base = H.size) → W p l e R s m args below meth c H1 locs1 (cells + 33) (slots + 224) Q (F0 m (pc + 4) ls (.ref H.size :: rest))) : W p l e R s m args below meth c H locs cells slots Q (F0 m pc ls (.int 6 :: .int 32 :: rest)) := by
  intro T hT X
  subst hb
  subst hT
  have hpl : e.platform.magicAccessors = ({} : Platform).magicAccessors := by rw [X.admits.platform]
  obtain ⟨cz, hfc0, hcl⟩ := Cond.classLink_spec hown hclink e.platform hpl
  cases hA.symm.trans hfc0
  obtain ⟨hg₁, hwarm₁, hready₁⟩ := State.classEntry (e := e) X.warmed hcl
  generalize T.vm.noted m.cls index (.cls cA) = vm₁ at hg₁ hwarm₁ hready₁
  have hal : s.vm.Alike vm₁ := hwarm₁.alike
  obtain ⟨kA₁, hkA₁, heA⟩ := hal.2.2 _ _ hkA
  obtain ⟨kI₁, hkI₁, heI⟩ := hal.2.2 _ _ hkI
  have hkindA₁ : kA₁.kind = .array cI (.array .int) := by rw [heA]; exact hkindA
  have hkindI₁ : kI₁.kind = .array c0 .int := by rw [heI]; exact hkindI
  have X₁ := X.noted hwarm₁
  obtain ⟨hr1, hr2⟩ := X.roomAbove hcells hslots
  have XF := m_filled X₁ cA cI 32
  obtain ⟨f1, f2, f3, f4⟩ := mFill_f (T.setVm vm₁) cA cI 32
  have e5 : cells + 1 + 32 = cells + 33 := by omega
  have e6 : slots + 32 + 32 * 6 = slots + 224 := by omega
  rw [e5, e6] at XF
  obtain ⟨t, a1, b1⟩ := kk (mFill (T.setVm vm₁) cA cI 32).heap _ (by rw [f1]; show T.heap.size + 1 + 32 = _; omega) (fun q hq => mFill_old (T.setVm vm₁) cA cI hq 32) f2 (fun j hj => mFill_row (T.setVm vm₁) cA cI 32 j hj) (fun q hq => by
      rcases List.mem_append.mp hq with h | h
      · exact Or.inl h
      · obtain ⟨z, -, rfl⟩ := List.mem_map.mp h
        exact Or.inr rfl) (mFill (T.setVm vm₁) cA cI 32) rfl XF
  refine ⟨t, ?_, b1⟩
  have hl1 : ¬ 32 > e.platform.arrayLengthLimit := by rw [Launch.admits_arrayLengthLimit X.admits]; omega
  have hh1 : ¬ 32 * 4 > e.platform.maxHeapBytes := by rw [Launch.admits_maxHeapBytes X.admits]; omega
  jvm_step X.here [hx, hdg]
  simp only [multianewarray.sem, wp_bind', W.resolveClassAt_links (State.method?_setTop (F0 m pc ls (.int 6 :: .int 32 :: rest)) X.here.top) hg₁]
  rw [W.popN, if_neg (by decide)]
  refine ⟨F0 m pc ls (.int 6 :: .int 32 :: rest), State.topJava?_setTop' (s := T.setVm vm₁) _ X.here.top, [.int 32, .int 6], rest, rfl, rfl, ?_⟩
  simp only [List.mapM_cons, List.mapM_nil, wp_bind', wp_pure']
  refine m_make2 (k := kA₁) (kI := kI₁) (c0 := c0) hkA₁ hkindA₁ hkI₁ hkindI₁ hl1 hh1 (by show T.heap.size + 33 ≤ _; omega) (by show T.slotsUsed + 224 ≤ _; omega) (fun d' acts' => ?_)
  have eS : ((T.setTop (F0 m pc ls (.int 6 :: .int 32 :: rest))).setVm vm₁).setTop (F0 m pc ls rest) = (T.setVm vm₁).setTop (F0 m pc ls rest) := by
    show ((T.setVm vm₁).setTop _).setTop _ = _
    rw [State.setTop_setTop]
  have eS2 : ((T.setTop (F0 m pc ls (.int 6 :: .int 32 :: rest))).setVm vm₁).setTop { F0 m pc ls (.int 6 :: .int 32 :: rest) with stack := rest } = (T.setVm vm₁).setTop (F0 m pc ls rest) := eS
  rw [eS2, mFill_top]
  simp only [wp_bind', W.mark, W.pushRef, State.topJava?_setTop' _ XF.here.top, Option.some.injEq, exists_eq_left', State.setTop_setTop, State.heap_setTop]
  intro acts
  simp [jvm, XF.here.top]
  exact a1
end STD
end MNA
