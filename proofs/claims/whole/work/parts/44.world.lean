-- one world: begun, gone through
def sh1 (x : Int32) (k : Int32) : Int32 := (x.toUInt32 >>> (k.toUInt32 &&& Int32.toUInt32 31)).toInt32
def pc1 (x : Int32) : Int32 := x - (sh1 x 1 &&& 1431655765)
def pc2 (x : Int32) : Int32 := (x &&& 858993459) + (sh1 x 2 &&& 858993459)
def pc3 (x : Int32) : Int32 := (x + sh1 x 4) &&& 252645135
def pc4 (x : Int32) : Int32 := x + sh1 x 8
def pc5 (x : Int32) : Int32 := (x + sh1 x 16) &&& 63
theorem pc_small : ∀ k, k < 64 → pc5 (pc4 (pc3 (pc2 (pc1 (nI k))))) = bitI (nI k) := by decide +kernel
theorem JI_bitCount {x : Int32} (h : 0 ≤ x.toInt ∧ x.toInt < 64) {v : Vv} {Q : Int32 → Vv → Prop} (hQ : Q (bitI x) v) : m_JI_bitCount x v Q := by
  refine s_JI_bitCount ?_
  obtain ⟨k, hk, rfl⟩ := nI_of3 (n := 64) h.1 h.2
  rw [← pc_small k hk] at hQ
  exact hQ
theorem D_rooms {l : Nat} (hl : isDoer l) {v : Vv} (h : 0 ≤ (v.1 l 2).toInt ∧ (v.1 l 2).toInt ≤ 63) {Q : Int32 → Vv → Prop} (hQ : Q (bitI (v.1 l 2)) v) : m_D_rooms l v Q :=
  s_D_rooms ⟨hl, JI_bitCount ⟨h.1, by omega⟩ hQ⟩
def dox (k nu c dn bh ah : Int32) : Bool :=
  if k = 1 then (if bh < 30 then false else true)
  else if k = 2 then (if nu / 4 < ah then false else true)
  else if k = 3 then (if (if bh < 30 then false else true) = true then (if 0 < dn then false else true) else false)
  else if k = 4 then (if (if nu / 4 < ah then false else true) = true then (if (c + nu) % 2 = 0 then true else false) else false)
  else if k = 5 then (if 1 < dn then false else true) else true
def adx (k nu x bh : Int32) : Int32 :=
  if k = 1 then bh else if k = 2 then x else if k = 3 then (if 60 < bh then 60 else bh) else if k = 4 then x / 2 else if k = 5 then (if 4 < nu then 2 * x else x) else x
theorem D_does {l : Nat} (hl : isDoer l) {c dn bh ah : Int32} {v : Vv} {Q : Bool → Vv → Prop} (hQ : Q (dox (v.1 l 0) (v.1 l 1) c dn bh ah) v) : m_D_does l c dn bh ah v Q := by
  refine s_D_does ⟨hl, ?_⟩
  unfold dox at hQ
  by_cases h1 : v.1 l 0 = 1
  · rw [if_pos h1] at hQ ⊢
    exact s_D_trusts hQ
  rw [if_neg h1] at hQ ⊢
  by_cases h2 : v.1 l 0 = 2
  · rw [if_pos h2] at hQ ⊢
    exact s_D_dares ⟨hl, hQ⟩
  rw [if_neg h2] at hQ ⊢
  by_cases h3 : v.1 l 0 = 3
  · rw [if_pos h3] at hQ ⊢
    exact s_D_trusts hQ
  rw [if_neg h3] at hQ ⊢
  by_cases h4 : v.1 l 0 = 4
  · rw [if_pos h4] at hQ ⊢
    exact s_D_dares ⟨hl, hQ⟩
  rw [if_neg h4] at hQ ⊢
  by_cases h5 : v.1 l 0 = 5
  · rw [if_pos h5] at hQ ⊢
    exact hQ
  rw [if_neg h5] at hQ ⊢
  exact hQ
theorem D_adds {l : Nat} (hl : isDoer l) {x bh : Int32} {v : Vv} {Q : Int32 → Vv → Prop} (hQ : Q (adx (v.1 l 0) (v.1 l 1) x bh) v) : m_D_adds l x bh v Q := by
  refine s_D_adds ⟨hl, ?_⟩
  unfold adx at hQ
  by_cases h1 : v.1 l 0 = 1
  · rw [if_pos h1] at hQ ⊢; exact hQ
  rw [if_neg h1] at hQ ⊢
  by_cases h2 : v.1 l 0 = 2
  · rw [if_pos h2] at hQ ⊢; exact hQ
  rw [if_neg h2] at hQ ⊢
  by_cases h3 : v.1 l 0 = 3
  · rw [if_pos h3] at hQ ⊢; exact s_JM_min hQ
  rw [if_neg h3] at hQ ⊢
  by_cases h4 : v.1 l 0 = 4
  · rw [if_pos h4] at hQ ⊢; exact hQ
  rw [if_neg h4] at hQ ⊢
  by_cases h5 : v.1 l 0 = 5
  · rw [if_pos h5] at hQ ⊢; exact hQ
  rw [if_neg h5] at hQ ⊢
  exact hQ
/-- where the clocks stand, how often each was done -/
abbrev Wd := (Nat → Int32) × (Nat → Int32)
def up (f : Nat → Int32) (c : Nat) (x : Int32) (k : Nat) : Int32 := if k = c then x else f k
section WORLD
variable (A : Cf) (F : Rl) (n m : Nat)
def came (d : Nat) : Int32 := clamp (F 0 (nmv 0 (nI d) 0 0 0 (bitI (cwa A d)))) 0 100
def addv (d c : Nat) (dn : Int32) : Int32 := clamp (F 1 (nmv (nI c) (nI d) (cro A c) (cof A c) dn (bitI (cwa A d)))) (-120) 120
def mindv (c : Nat) (dn : Int32) : Int32 := clamp (F 2 (nmv (nI c) 0 (cro A c) (cof A c) dn 0)) 0 99
def trs (d : Nat) : Nat := ix (cnu A d % nI n)
def vis (d : Nat) (ah : Int32) (c : Nat) (S : Wd) : Wd :=
  if dox (cki A d) (cnu A d) (nI c) (S.2 c) (S.1 (trs A n d) - S.1 c) ah = true then
    (up S.1 c (S.1 c + adx (cki A d) (cnu A d) (addv A F d c (S.2 c)) (S.1 (trs A n d) - S.1 c)), up S.2 c (S.2 c + 1)) else S
def visc (d : Nat) (ah : Int32) (r c : Nat) (S : Wd) : Wd := if cro A c = nI r ∧ cse A c = 0 then vis A F n d ah c S else S
def rowc (d : Nat) (ah : Int32) (r : Nat) : Nat → Wd → Wd
  | 0, S => S
  | c + 1, S => visc A F n d ah r c (rowc d ah r c S)
def goes (d r : Nat) : Prop := ((cwa A d >>> (nI r &&& 31)) &&& 1) = 1
noncomputable def roomc (d : Nat) (ah : Int32) (r : Nat) (S : Wd) : Wd := by classical exact if goes A d r then rowc A F n d ah r n S else S
noncomputable def roomsc (d : Nat) (ah : Int32) : Nat → Wd → Wd
  | 0, S => S
  | r + 1, S => roomc A F n d ah r (roomsc d ah r S)
def bt (w d : Nat) : Bool := decide (w / 2 ^ d % 2 = 1)
noncomputable def gone (w : Nat) : Nat → Wd × Nat
  | 0 => ((fun c => cof A c + (if cse A c = 1 then 60 else 0), cse A), 0)
  | d + 1 => if bt w d = true then (roomsc A F n d (nI (gone w d).2) 6 (gone w d).1, (gone w d).2 + 1) else gone w d
noncomputable def wat (w c : Nat) : Int32 := (gone A F n w m).1.1 c
noncomputable def wdn (w c : Nat) : Int32 := (gone A F n w m).1.2 c
def chc (w : Nat) : Nat → Int64
  | 0 => 1
  | d + 1 => chc w d * (if bt w d = true then (came A F d).toInt64 else (100 - came A F d).toInt64)
noncomputable def rgt (w : Nat) : Nat → Int32
  | 0 => 0
  | c + 1 => if wat A F n m w c = 60 then rgt w c ||| ((1 : Int32) <<< (nI c &&& 31)) else rgt w c
def day (x : Int32) : Int32 := (x % 1440 + 1440) % 1440
/-- the time, and whether it fits, after c clocks -/
noncomputable def tmf (w : Nat) : Nat → Int32 × Bool
  | 0 => (-1, true)
  | c + 1 => if csa A c = -1 then tmf w c else (day (csa A c - wat A F n m w c + 60), (tmf w c).2 && (decide ((tmf w c).1 = -1) || decide ((tmf w c).1 = day (csa A c - wat A F n m w c + 60))))
end WORLD
/-- the house as the class has it, and as the reference has it -/
def CA (A : Cf) (n m : Nat) (v : Vv) : Prop := v.1 74 2 = nI n ∧ v.1 74 3 = nI m ∧ (∀ c, c < n → v.1 (77 + c) 0 = cro A c ∧ v.1 (77 + c) 1 = cof A c ∧ v.1 (77 + c) 2 = cse A c ∧ v.1 (77 + c) 3 = csa A c) ∧ ∀ d, d < m → v.1 (83 + d) 0 = cki A d ∧ v.1 (83 + d) 1 = cnu A d ∧ v.1 (83 + d) 2 = cwa A d
def MA (A : Cf) (n m : Nat) (v : Vv) : Prop := v.1 154 11 = nI n ∧ v.1 154 15 = nI m ∧ (∀ c, c < n → v.1 159 c = cro A c ∧ v.1 158 c = cof A c ∧ v.1 160 c = cse A c ∧ v.1 161 c = csa A c) ∧ ∀ d, d < m → v.1 162 d = cki A d ∧ v.1 163 d = cnu A d ∧ v.1 164 d = cwa A d
def OK (A : Cf) (n m : Nat) : Prop := n ≤ 6 ∧ m ≤ 5 ∧ (∀ c, c < n → okC A c) ∧ ∀ d, d < m → okD A d
theorem CA.at {A : Cf} {n m : Nat} {v w : Vv} (h : CA A n m v) (hA : OK A n m) (f : ∀ i k, 74 ≤ i → i ≤ 87 → w.1 i k = v.1 i k) : CA A n m w := by
  obtain ⟨a, b, c, d⟩ := h
  obtain ⟨h6, h5, -, -⟩ := hA
  refine ⟨by rw [f _ _ (by omega) (by omega)]; exact a, by rw [f _ _ (by omega) (by omega)]; exact b, fun x hx => ?_, fun x hx => ?_⟩
  · rw [f _ _ (by omega) (by omega), f _ _ (by omega) (by omega), f _ _ (by omega) (by omega), f _ _ (by omega) (by omega)]
    exact c x hx
  · rw [f _ _ (by omega) (by omega), f _ _ (by omega) (by omega), f _ _ (by omega) (by omega)]
    exact d x hx
theorem bt_eq : ∀ w, w < 32 → ∀ d, d < 5 → ((nI w >>> (nI d &&& 31)) &&& 1) = if bt w d = true then 1 else 0 := by decide +kernel
theorem nmod : ∀ x, x < 10 → ∀ y, y < 7 → y ≠ 0 → nI x % nI y = nI (x % y) := by decide +kernel
theorem trs_lt {A : Cf} {n m d : Nat} (hA : OK A n m) (hn : 0 < n) (hd : d < m) : trs A n d < n ∧ cnu A d % nI n = nI (trs A n d) := by
  obtain ⟨h6, h5, -, hD⟩ := hA
  obtain ⟨-, ⟨a, b⟩, -⟩ := hD d hd
  obtain ⟨x, hx, e⟩ := nI_of3 (x := cnu A d) (n := 10) a (by omega)
  have e2 := nmod x hx n (by omega) (by omega)
  have hlt : x % n < n := Nat.mod_lt _ hn
  unfold trs
  rw [e, e2, ix_nI (by omega)]
  exact ⟨hlt, rfl⟩
-- the class
def AWr (w i k : Nat) : Prop := AZ i k ∨ i = 3 + w ∨ i = 36 + w
def RW (w n : Nat) (S : Wd) (v : Vv) : Prop := ∀ c, c < n → v.1 (3 + w) c = S.1 c ∧ v.1 (36 + w) c = S.2 c
theorem isDoer_d {d : Nat} (h : d < 5) : isDoer (83 + d) := by
  have : d = 0 ∨ d = 1 ∨ d = 2 ∨ d = 3 ∨ d = 4 := by omega
  unfold isDoer
  rcases this with rfl | rfl | rfl | rfl | rfl <;> decide
theorem AZ_w {i k : Nat} (h : AZ i k) : 73 ≤ i ∧ i ≤ 145 ∧ ¬ (74 ≤ i ∧ i ≤ 121) ∧ ¬ TXs i := by unfold AZ at h; unfold TXs; omega
theorem CT.az {F : Rl} {v w : Vv} (h : CT F v) {u : Nat} (hu : u < 32) (f : FX (AWr u) v w) : CT F w := h.at (fun i k q => f.1 i k fun z => by
  unfold AWr at z
  unfold TXs at q
  rcases z with z | z
  · exact (AZ_w z).2.2.2 q
  · omega) (by rw [f.2])
theorem CA.az {A : Cf} {n m : Nat} {v w : Vv} (h : CA A n m v) (hA : OK A n m) {u : Nat} (hu : u < 32) (f : FX (AWr u) v w) : CA A n m w := h.at hA fun i k a b => f.1 i k fun z => by
  unfold AWr at z
  rcases z with z | z
  · have := AZ_w z; omega
  · omega
theorem RW.az {w n : Nat} {S : Wd} {u v : Vv} (h : RW w n S u) (hw : w < 32) (f : FX AZ u v) : RW w n S v := fun c hc => by
  rw [f.1 _ _ (fun z => by have := AZ_w z; omega), f.1 _ _ (fun z => by have := AZ_w z; omega)]
  exact h c hc
theorem RW_put {w n c : Nat} {S : Wd} {v : Vv} (h : RW w n S v) (hc : c < n) {x : Int32} : RW w n (up S.1 c (S.1 c + x), up S.2 c (S.2 c + 1)) (sI (sI v (3 + w) c (v.1 (3 + w) c + x)) (36 + w) c ((sI v (3 + w) c (v.1 (3 + w) c + x)).1 (36 + w) c + 1)) := fun y hy => by
  have e1 : (sI v (3 + w) c (v.1 (3 + w) c + x)).1 (36 + w) c = S.2 c := by rw [sI_cell _ _ _ _ (by omega)]; exact (h c hc).2
  rw [e1, (h c hc).1]
  show _ = (if y = c then S.1 c + x else S.1 y) ∧ _ = (if y = c then S.2 c + 1 else S.2 y)
  by_cases e : y = c
  · subst e
    rw [if_pos rfl, if_pos rfl, sI_same, sI_cell _ _ _ _ (by omega), sI_same]
    exact ⟨rfl, rfl⟩
  · rw [if_neg e, if_neg e, sI_slot _ _ _ _ e, sI_slot _ _ _ _ e, sI_slot _ _ _ _ e, sI_slot _ _ _ _ e]
    exact h y hy
theorem W_visit {A : Cf} {F : Rl} {n m w d c : Nat} (hA : OK A n m) (hw : w < 32) (hd : d < m) (hc : c < n) {ah : Int32} {S : Wd} {v : Vv} (hC : CA A n m v) (hT : CT F v) (hR : RW w n S v) {Q : Vv → Prop} (hQ : ∀ v', FX (AWr w) v v' → RW w n (vis A F n d ah c S) v' → Q v') : m_W_visit (nI w) (nI d) ah (nI c) v Q := by
  obtain ⟨t1, t2⟩ := trs_lt hA (by omega) hd
  obtain ⟨h6, h5, -, hD⟩ := id hA
  obtain ⟨c1, c2, c3, c4⟩ := id hC
  obtain ⟨d1, d2, d3⟩ := c4 d hd
  obtain ⟨-, -, q3⟩ := hD d hd
  refine s_W_visit ?_
  rw [c1, if_pos (by rw [show (0 : Int32) = nI 0 from rfl]; exact nI_lt (by omega) (by omega)), ix_nI (by omega), ix_nI (by omega), ix_nI (by omega), d2, t2, ix_nI (by omega)]
  refine ⟨ib_nI (by omega) (by decide), ib_nI (by omega) (by decide), fun z => ?_, ib_nI hw (by decide), ib_nI (by omega) (by decide), ?_⟩
  · rw [i_eq, nI_tI (by omega), t_0] at z
    omega
  rw [(hR c hc).1, (hR c hc).2, (hR _ t1).1]
  refine D_does (isDoer_d (by omega)) ?_
  rw [d1, d2]
  unfold vis at hQ
  by_cases g : dox (cki A d) (cnu A d) (nI c) (S.2 c) (S.1 (trs A n d) - S.1 c) ah = true
  · rw [if_pos g] at hQ ⊢
    refine D_rooms (isDoer_d (by omega)) (by rw [d3]; exact q3) ?_
    rw [d3, (c3 c hc).1, (c3 c hc).2.1, (hR c hc).2]
    refine C_says (q := 1) hT (by decide) fun w1 f1 => P_bounded (by decide) (D_adds (isDoer_d (by omega)) ?_)
    have f1' : FX (AWr w) v w1 := ⟨fun i k z => f1.1 i k fun y => z (Or.inl y), f1.2⟩
    obtain ⟨-, -, -, k4⟩ := hC.az hA hw f1'
    rw [(k4 d hd).1, (k4 d hd).2.1]
    have hR1 := hR.az hw f1
    exact hQ _ ((f1'.sI (Or.inr (Or.inl rfl)) _).sI (Or.inr (Or.inr rfl)) _) (RW_put hR1 hc)
  · rw [if_neg g] at hQ ⊢
    exact hQ v (FX.rf _ _) hR
