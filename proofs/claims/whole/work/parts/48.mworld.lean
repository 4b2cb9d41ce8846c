-- the reference makes a world
def F2 (A L : Nat → Nat → Prop) (v w : Vv) : Prop := (∀ i k, ¬ A i k → w.1 i k = v.1 i k) ∧ (∀ i k, ¬ L i k → w.2.1 i k = v.2.1 i k) ∧ w.2.2 = v.2.2
theorem F2.rf (A L : Nat → Nat → Prop) (v : Vv) : F2 A L v v := ⟨fun _ _ _ => rfl, fun _ _ _ => rfl, rfl⟩
theorem F2.tr {A L : Nat → Nat → Prop} {u v w : Vv} (h1 : F2 A L u v) (h2 : F2 A L v w) : F2 A L u w := ⟨fun i k h => (h2.1 i k h).trans (h1.1 i k h), fun i k h => (h2.2.1 i k h).trans (h1.2.1 i k h), h2.2.2.trans h1.2.2⟩
theorem F2.sI {A L : Nat → Nat → Prop} {v w : Vv} (h : F2 A L v w) {i k : Nat} (hA : A i k) (x : Int32) : F2 A L v (sI w i k x) := ⟨fun a b hab => by
  rw [sI_at, if_neg (fun q => hab (by rw [q.1, q.2]; exact hA))]
  exact h.1 a b hab, h.2.1, h.2.2⟩
theorem F2.sJ {A L : Nat → Nat → Prop} {v w : Vv} (h : F2 A L v w) {i k : Nat} (hL : L i k) (x : Int64) : F2 A L v (sJ w i k x) := ⟨h.1, fun a b hab => by
  rw [sJ_at, if_neg (fun q => hab (by rw [q.1, q.2]; exact hL))]
  exact h.2.1 a b hab, h.2.2⟩
theorem F2.mono {A L A' L' : Nat → Nat → Prop} {v w : Vv} (h : F2 A L v w) (hA : ∀ i k, A i k → A' i k) (hL : ∀ i k, L i k → L' i k) : F2 A' L' v w := ⟨fun i k q => h.1 i k fun z => q (hA i k z), fun i k q => h.2.1 i k fun z => q (hL i k z), h.2.2⟩
theorem FM.f2 {B : Nat → Prop} {A L : Nat → Nat → Prop} {v w : Vv} (h : FM B v w) (hA : ∀ k, B k → A 154 k) (hL : L 154 27) : F2 A L v w := ⟨fun i k q => h.1 i k fun z => q (by rw [z.1]; exact hA k z.2), fun i k q => h.2.1 i k fun z => q (by rw [z.1, z.2]; exact hL), h.2.2⟩
def AMz (i k : Nat) : Prop := i = 154 ∧ 16 ≤ k ∧ k ≤ 30
def LMz (i k : Nat) : Prop := i = 154 ∧ k = 27
def AMw (w i k : Nat) : Prop := i = 154 ∧ 16 ≤ k ∧ k ≤ 30 ∨ (i = 165 ∨ i = 166) ∧ 6 * w ≤ k ∧ k < 6 * w + 6 ∨ 168 ≤ i ∧ i ≤ 170 ∧ k = w
def LMw (w i k : Nat) : Prop := i = 154 ∧ k = 27 ∨ i = 167 ∧ k = w
theorem F2.zw {w : Nat} {u v : Vv} (h : F2 AMz LMz u v) : F2 (AMw w) (LMw w) u v := h.mono (fun i k q => Or.inl q) fun i k q => Or.inl q
theorem MA.at {A : Cf} {n m : Nat} {v w : Vv} (h : MA A n m v) (f : ∀ i k, (158 ≤ i ∧ i ≤ 164 ∨ i = 154 ∧ (k = 11 ∨ k = 15)) → w.1 i k = v.1 i k) : MA A n m w := by
  obtain ⟨a, b, c, d⟩ := h
  refine ⟨by rw [f _ _ (by omega)]; exact a, by rw [f _ _ (by omega)]; exact b, fun x hx => ?_, fun x hx => ?_⟩
  · rw [f _ _ (by omega), f _ _ (by omega), f _ _ (by omega), f _ _ (by omega)]
    exact c x hx
  · rw [f _ _ (by omega), f _ _ (by omega), f _ _ (by omega)]
    exact d x hx
theorem MA.fw {A : Cf} {n m w : Nat} {u v : Vv} (h : MA A n m u) (f : F2 (AMw w) (LMw w) u v) : MA A n m v := h.at fun i k q => f.1 i k (by unfold AMw; omega)
theorem MT.fw {F : Rl} {w : Nat} {u v : Vv} (h : MT F u) (f : F2 (AMw w) (LMw w) u v) : MT F v := h.at (fun i k q => f.1 i k (by unfold TXs at q; unfold AMw; omega)) (f.1 _ _ (by unfold AMw; omega))
def RM (w n : Nat) (S : Wd) (v : Vv) : Prop := ∀ c, c < n → v.1 165 (6 * w + c) = S.1 c ∧ v.1 166 (6 * w + c) = S.2 c
theorem RM.z {w n : Nat} {S : Wd} {u v : Vv} (h : RM w n S u) (f : F2 AMz LMz u v) : RM w n S v := fun c hc => by
  rw [f.1 _ _ (by unfold AMz; omega), f.1 _ _ (by unfold AMz; omega)]
  exact h c hc
def DBs (n b : Nat) (S : Wd) : Prop := ∀ c, c < n → 0 ≤ (S.2 c).toInt ∧ (S.2 c).toInt ≤ b
section MW
variable {A : Cf} {F : Rl} {n m : Nat}
theorem DBs.up {n b c : Nat} {d : Nat} (h : b ≤ d) {S : Wd} (hS : DBs n b S) : DBs n d S := fun c hc => by have := hS c hc; omega
theorem DB_vis {d c b : Nat} {ah : Int32} {S : Wd} (hb : b < 1000) (h : DBs n b S) : DBs n (b + 1) (vis A F n d ah c S) := by
  unfold vis
  split
  · intro x hx
    show 0 ≤ (if x = c then S.2 c + 1 else S.2 x).toInt ∧ (if x = c then S.2 c + 1 else S.2 x).toInt ≤ _
    have h1 := h x hx
    by_cases e : x = c
    · subst e
      rw [if_pos rfl, Int32.toInt_add, t_1, Int.bmod_eq_of_le (by omega) (by omega)]
      omega
    · rw [if_neg e]
      omega
  · exact fun x hx => by have := h x hx; omega
theorem DB_row {d r b : Nat} {ah : Int32} {S : Wd} (hb : b < 900) (h : DBs n b S) : ∀ c, c ≤ 6 → DBs n (b + c) (rowc A F n d ah r c S)
  | 0, _ => h
  | c + 1, hc => by
    have h1 := DB_row (d := d) (r := r) (ah := ah) hb h c (by omega)
    show DBs n (b + (c + 1)) (visc A F n d ah r c (rowc A F n d ah r c S))
    unfold visc
    split
    · exact DB_vis (b := b + c) (by omega) h1
    · exact fun x hx => by have := h1 x hx; omega
theorem DB_rooms {d b : Nat} (hn : n ≤ 6) {ah : Int32} {S : Wd} (hb : b < 800) (h : DBs n b S) : ∀ r, r ≤ 6 → DBs n (b + 6 * r) (roomsc A F n d ah r S)
  | 0, _ => h
  | r + 1, hr => by
    have h1 := DB_rooms (d := d) (ah := ah) hn hb h r (by omega)
    show DBs n (b + 6 * (r + 1)) (roomc A F n d ah r (roomsc A F n d ah r S))
    unfold roomc
    split
    · exact fun x hx => by have := DB_row (A := A) (F := F) (d := d) (r := r) (ah := ah) (b := b + 6 * r) (by omega) h1 n hn x hx; omega
    · exact fun x hx => by have := h1 x hx; omega
theorem DB_gone {w : Nat} (hA : OK A n m) : ∀ d, d ≤ 5 → DBs n (1 + 36 * d) (gone A F n w d).1
  | 0, _ => fun c hc => by
    have h1 := (hA.2.2.1 c hc).2.2.1
    show 0 ≤ (cse A c).toInt ∧ (cse A c).toInt ≤ _
    omega
  | d + 1, hd => by
    have h1 := DB_gone (w := w) hA d (by omega)
    unfold gone
    split
    · exact fun x hx => by have := DB_rooms (A := A) (F := F) (d := d) hA.1 (ah := nI (gone A F n w d).2) (b := 1 + 36 * d) (by omega) h1 6 (by decide) x hx; omega
    · exact fun x hx => by have := h1 x hx; omega
theorem M_does {d : Nat} (hd : d < 5) {c : Nat} {dn bh ah : Int32} {v : Vv} (hk : 0 ≤ (v.1 162 d).toInt ∧ (v.1 162 d).toInt ≤ 5) (hdn : 0 ≤ dn.toInt) {Q : Bool → Vv → Prop} (hQ : Q (dox (v.1 162 d) (v.1 163 d) (nI c) dn bh ah) v) : m_M_does (nI d) (nI c) dn bh ah v Q := by
  have h0dn : (if dn = 0 then true else false) = if 0 < dn then false else true := by
    by_cases q : dn = 0
    · rw [q]; rfl
    · rw [if_neg q, if_pos]
      rw [Int32.lt_iff_toInt_lt, t_0]
      have : dn.toInt ≠ 0 := fun z => q (i_eq.mpr z)
      omega
  refine s_M_does ⟨ib_nI hd (by decide), ?_⟩
  rw [ix_nI (by omega)]
  unfold dox at hQ
  have h55 : ∀ {k : Int32} {R : Bool → Vv → Prop}, R (if v.1 163 d / 4 < ah then false else (if k = 2 then true else (if (nI c + v.1 163 d) % 2 = 0 then true else false))) v → k_M_does_55 (nI d) (nI c) ah k v R := fun {k R} h => by
    refine s_M_does_55 ⟨ib_nI hd (by decide), ?_⟩
    rw [ix_nI (by omega)]
    exact h
  by_cases h1 : v.1 162 d = 1
  · rw [if_pos h1] at hQ ⊢
    refine s_M_does_20 ?_
    rw [if_pos h1]
    exact hQ
  rw [if_neg h1] at hQ ⊢
  by_cases h3 : v.1 162 d = 3
  · rw [h3, if_neg (by decide), if_pos rfl] at hQ
    rw [if_pos h3]
    refine s_M_does_20 ?_
    rw [h3, if_neg (show ¬ (3 : Int32) = 1 by decide), h0dn]
    by_cases q : bh < 30
    · rw [if_pos q] at hQ ⊢; exact hQ
    · rw [if_neg q] at hQ ⊢; exact hQ
  rw [if_neg h3]
  by_cases h2 : v.1 162 d = 2
  · rw [if_pos h2] at hQ ⊢
    refine h55 ?_
    rw [if_pos h2]
    exact hQ
  rw [if_neg h2] at hQ ⊢
  rw [if_neg h3] at hQ
  by_cases h4 : v.1 162 d = 4
  · rw [if_pos h4] at hQ ⊢
    refine h55 ?_
    rw [if_neg h2]
    by_cases q : v.1 163 d / 4 < ah
    · rw [if_pos q] at hQ ⊢; exact hQ
    · rw [if_neg q] at hQ ⊢; exact hQ
  rw [if_neg h4] at hQ ⊢
  by_cases h5 : v.1 162 d = 5
  · rw [if_pos h5] at hQ
    rw [if_neg (by rw [h5]; decide)]
    exact hQ
  · rw [if_neg h5] at hQ
    rw [if_pos]
    · exact hQ
    · rw [i_eq, t_0]
      rw [i_eq, t_1] at h1
      rw [i_eq, t_2] at h2
      rw [i_eq, t_3] at h3
      rw [i_eq, t_4] at h4
      rw [i_eq, t_5] at h5
      omega
theorem nm6 {v : Vv} {a b c d e f : Int32} (h0 : v.1 154 16 = a) (h1 : v.1 154 17 = b) (h2 : v.1 154 18 = c) (h3 : v.1 154 19 = d) (h4 : v.1 154 20 = e) (h5 : v.1 154 21 = f) : NMS v (nmv a b c d e f) := fun k hk => by
  have : k = 0 ∨ k = 1 ∨ k = 2 ∨ k = 3 ∨ k = 4 ∨ k = 5 := by omega
  rcases this with rfl | rfl | rfl | rfl | rfl | rfl
  · exact h0
  · exact h1
  · exact h2
  · exact h3
  · exact h4
  · exact h5
theorem FM.z {v w : Vv} (h : FM AV v w) : F2 AMz LMz v w := h.f2 (fun k q => by unfold AV at q; unfold AMz; omega) ⟨rfl, rfl⟩
theorem M_came (hA : OK A n m) {d : Nat} (hd : d < m) {v : Vv} (hM : MA A n m v) (hT : MT F v) {Q : Int32 → Vv → Prop} (hQ : ∀ v', F2 AMz LMz v v' → Q (came A F d) v') : m_M_cameOf (nI d) v Q := by
  obtain ⟨h6, h5, -, hD⟩ := id hA
  obtain ⟨-, -, q3⟩ := hD d hd
  have d3 := (hM.2.2.2 d hd).2.2
  refine s_M_cameOf ⟨ib_nI (by omega) (by decide), ?_⟩
  generalize hu : sI (sI (sI (sI (sI v 154 16 0) 154 17 (nI d)) 154 18 0) 154 19 0) 154 20 0 = u
  have g : F2 AMz LMz v u := by
    rw [← hu]
    exact (((((F2.rf AMz LMz v).sI (by unfold AMz; omega) _).sI (by unfold AMz; omega) _).sI (by unfold AMz; omega) _).sI (by unfold AMz; omega) _).sI (by unfold AMz; omega) _
  have e164 : u.1 164 (ix (nI d)) = cwa A d := by rw [g.1 _ _ (by unfold AMz; omega), ix_nI (by omega)]; exact d3
  rw [e164]
  refine M_bitsOf ⟨q3.1, by omega⟩ ?_
  have g2 := g.sI (i := 154) (k := 21) (by unfold AMz; omega) (bitI (cwa A d))
  have hT2 : MT F (sI u 154 21 (bitI (cwa A d))) := hT.at (fun i k q => g2.1 i k (by unfold TXs at q; unfold AMz; omega)) (g2.1 _ _ (by unfold AMz; omega))
  refine M_says (q := 0) hT2 (by decide) (f := nmv 0 (nI d) 0 0 0 (bitI (cwa A d))) (nm6 ?_ ?_ ?_ ?_ ?_ ?_) fun w f => M_within (hQ w (g2.tr f.z))
  · rw [sI_slot _ _ _ _ (by decide), ← hu]; rfl
  · rw [sI_slot _ _ _ _ (by decide), ← hu]; rfl
  · rw [sI_slot _ _ _ _ (by decide), ← hu]; rfl
  · rw [sI_slot _ _ _ _ (by decide), ← hu]; rfl
  · rw [sI_slot _ _ _ _ (by decide), ← hu]; rfl
  · exact sI_same _ _ _ _
theorem M_adds (hA : OK A n m) {d c : Nat} (hd : d < m) (hc : c < n) {dn : Int32} {v : Vv} (hM : MA A n m v) (hT : MT F v) {Q : Int32 → Vv → Prop} (hQ : ∀ v', F2 AMz LMz v v' → Q (addv A F d c dn) v') : m_M_addsOf (nI d) (nI c) dn v Q := by
  obtain ⟨h6, h5, -, hD⟩ := id hA
  obtain ⟨-, -, q3⟩ := hD d hd
  have d3 := (hM.2.2.2 d hd).2.2
  obtain ⟨c0, c1, -, -⟩ := hM.2.2.1 c hc
  refine s_M_addsOf ⟨ib_nI (by omega) (by decide), ib_nI (by omega) (by decide), ?_⟩
  rw [ix_nI (by omega), ix_nI (by omega)]
  have e159 : (sI (sI v 154 16 (nI c)) 154 17 (nI d)).1 159 c = cro A c := by rw [sI_cell _ _ _ _ (by decide), sI_cell _ _ _ _ (by decide)]; exact c0
  rw [e159]
  have e158 : (sI (sI (sI v 154 16 (nI c)) 154 17 (nI d)) 154 18 (cro A c)).1 158 c = cof A c := by rw [sI_cell _ _ _ _ (by decide), sI_cell _ _ _ _ (by decide), sI_cell _ _ _ _ (by decide)]; exact c1
  rw [e158]
  generalize hu : sI (sI (sI (sI (sI v 154 16 (nI c)) 154 17 (nI d)) 154 18 (cro A c)) 154 19 (cof A c)) 154 20 dn = u
  have g : F2 AMz LMz v u := by
    rw [← hu]
    exact (((((F2.rf AMz LMz v).sI (by unfold AMz; omega) _).sI (by unfold AMz; omega) _).sI (by unfold AMz; omega) _).sI (by unfold AMz; omega) _).sI (by unfold AMz; omega) _
  have e164 : u.1 164 d = cwa A d := by rw [g.1 _ _ (by unfold AMz; omega)]; exact d3
  rw [e164]
  refine M_bitsOf ⟨q3.1, by omega⟩ ?_
  have g2 := g.sI (i := 154) (k := 21) (by unfold AMz; omega) (bitI (cwa A d))
  have hT2 : MT F (sI u 154 21 (bitI (cwa A d))) := hT.at (fun i k q => g2.1 i k (by unfold TXs at q; unfold AMz; omega)) (g2.1 _ _ (by unfold AMz; omega))
  refine M_says (q := 1) hT2 (by decide) (f := nmv (nI c) (nI d) (cro A c) (cof A c) dn (bitI (cwa A d))) (nm6 ?_ ?_ ?_ ?_ ?_ ?_) fun w f => M_within (hQ w (g2.tr f.z))
  · rw [sI_slot _ _ _ _ (by decide), ← hu]; rfl
  · rw [sI_slot _ _ _ _ (by decide), ← hu]; rfl
  · rw [sI_slot _ _ _ _ (by decide), ← hu]; rfl
  · rw [sI_slot _ _ _ _ (by decide), ← hu]; rfl
  · rw [sI_slot _ _ _ _ (by decide), ← hu]; rfl
  · exact sI_same _ _ _ _
theorem M_minds (hA : OK A n m) {c : Nat} (hc : c < n) {dn : Int32} {v : Vv} (hM : MA A n m v) (hT : MT F v) {Q : Int32 → Vv → Prop} (hQ : ∀ v', F2 AMz LMz v v' → Q (mindv A F c dn) v') : m_M_mindsOf (nI c) dn v Q := by
  obtain ⟨h6, h5, -, hD⟩ := id hA
  obtain ⟨c0, c1, -, -⟩ := hM.2.2.1 c hc
  refine s_M_mindsOf ⟨ib_nI (by omega) (by decide), ?_⟩
  rw [ix_nI (by omega)]
  have e159 : (sI (sI v 154 16 (nI c)) 154 17 0).1 159 c = cro A c := by rw [sI_cell _ _ _ _ (by decide), sI_cell _ _ _ _ (by decide)]; exact c0
  rw [e159]
  have e158 : (sI (sI (sI v 154 16 (nI c)) 154 17 0) 154 18 (cro A c)).1 158 c = cof A c := by rw [sI_cell _ _ _ _ (by decide), sI_cell _ _ _ _ (by decide), sI_cell _ _ _ _ (by decide)]; exact c1
  rw [e158]
  generalize hu : sI (sI (sI (sI (sI (sI v 154 16 (nI c)) 154 17 0) 154 18 (cro A c)) 154 19 (cof A c)) 154 20 dn) 154 21 0 = u
  have g : F2 AMz LMz v u := by
    rw [← hu]
    exact ((((((F2.rf AMz LMz v).sI (by unfold AMz; omega) _).sI (by unfold AMz; omega) _).sI (by unfold AMz; omega) _).sI (by unfold AMz; omega) _).sI (by unfold AMz; omega) _).sI (by unfold AMz; omega) _
  have hT2 : MT F u := hT.at (fun i k q => g.1 i k (by unfold TXs at q; unfold AMz; omega)) (g.1 _ _ (by unfold AMz; omega))
  refine M_says (q := 2) hT2 (by decide) (f := nmv (nI c) 0 (cro A c) (cof A c) dn 0) (nm6 ?_ ?_ ?_ ?_ ?_ ?_) fun w f => M_within (hQ w (g.tr f.z))
  all_goals (rw [← hu]; rfl)
theorem M_addsBy (hA : OK A n m) {d c : Nat} (hd : d < m) (hc : c < n) {dn bh : Int32} {v : Vv} (hM : MA A n m v) (hT : MT F v) {Q : Int32 → Vv → Prop} (hQ : ∀ v', F2 AMz LMz v v' → Q (adx (cki A d) (cnu A d) (addv A F d c dn) bh) v') : m_M_addsBy (nI d) (nI c) dn bh v Q := by
  obtain ⟨h6, h5, -, hD⟩ := id hA
  obtain ⟨d1, d2, -⟩ := hM.2.2.2 d hd
  refine s_M_addsBy ⟨ib_nI (by omega) (by decide), ?_⟩
  rw [ix_nI (by omega), d1]
  unfold adx at hQ
  by_cases h1 : cki A d = 1
  · rw [if_pos h1] at hQ ⊢
    exact hQ v (F2.rf _ _ _)
  rw [if_neg h1] at hQ ⊢
  by_cases h3 : cki A d = 3
  · rw [h3] at hQ ⊢
    rw [if_pos rfl]
    exact hQ v (F2.rf _ _ _)
  rw [if_neg h3] at hQ ⊢
  refine M_adds hA hd hc hM hT fun v' f => ?_
  have hQ := hQ v' f
  rw [f.1 163 d (by unfold AMz; omega), d2]
  by_cases h2 : cki A d = 2
  · rw [if_pos h2] at hQ
    rw [h2, if_neg (by decide), if_neg (by decide)]
    exact hQ
  · rw [if_neg h2] at hQ
    exact hQ
end MW
