-- the six levels of the reference as one
def F_atom (o : Nat)  (v : Vv) (Q : Int32 → Vv → Prop) : Prop := if o = 0 then m_M_atom0  v Q else if o = 1 then m_M_atom1  v Q else if o = 2 then m_M_atom2  v Q else if o = 3 then m_M_atom3  v Q else if o = 4 then m_M_atom4  v Q else m_M_atom5  v Q
def F_atom_71 (o : Nat) (l1 : Int32) (v : Vv) (Q : Int32 → Vv → Prop) : Prop := if o = 0 then k_M_atom0_71 l1 v Q else if o = 1 then k_M_atom1_71 l1 v Q else if o = 2 then k_M_atom2_71 l1 v Q else if o = 3 then k_M_atom3_71 l1 v Q else k_M_atom4_71 l1 v Q
def F_atom_123 (o : Nat) (l1 : Int32) (v : Vv) (Q : Int32 → Vv → Prop) : Prop := if o = 0 then k_M_atom0_123 l1 v Q else if o = 1 then k_M_atom1_123 l1 v Q else if o = 2 then k_M_atom2_123 l1 v Q else if o = 3 then k_M_atom3_123 l1 v Q else if o = 4 then k_M_atom4_123 l1 v Q else k_M_atom5_64 l1 v Q
def F_atom_157 (o : Nat) (l1 : Int32) (v : Vv) (Q : Int32 → Vv → Prop) : Prop := if o = 0 then k_M_atom0_157 l1 v Q else if o = 1 then k_M_atom1_157 l1 v Q else if o = 2 then k_M_atom2_157 l1 v Q else if o = 3 then k_M_atom3_157 l1 v Q else if o = 4 then k_M_atom4_157 l1 v Q else k_M_atom5_98 l1 v Q
def F_term (o : Nat)  (v : Vv) (Q : Int32 → Vv → Prop) : Prop := if o = 0 then m_M_term0  v Q else if o = 1 then m_M_term1  v Q else if o = 2 then m_M_term2  v Q else if o = 3 then m_M_term3  v Q else if o = 4 then m_M_term4  v Q else m_M_term5  v Q
def F_term_5 (o : Nat) (l1 : Int32) (v : Vv) (Q : Int32 → Vv → Prop) : Prop := if o = 0 then k_M_term0_5 l1 v Q else if o = 1 then k_M_term1_5 l1 v Q else if o = 2 then k_M_term2_5 l1 v Q else if o = 3 then k_M_term3_5 l1 v Q else if o = 4 then k_M_term4_5 l1 v Q else k_M_term5_5 l1 v Q
def F_added (o : Nat)  (v : Vv) (Q : Int32 → Vv → Prop) : Prop := if o = 0 then m_M_added0  v Q else if o = 1 then m_M_added1  v Q else if o = 2 then m_M_added2  v Q else if o = 3 then m_M_added3  v Q else if o = 4 then m_M_added4  v Q else m_M_added5  v Q
def F_added_5 (o : Nat) (l1 : Int32) (v : Vv) (Q : Int32 → Vv → Prop) : Prop := if o = 0 then k_M_added0_5 l1 v Q else if o = 1 then k_M_added1_5 l1 v Q else if o = 2 then k_M_added2_5 l1 v Q else if o = 3 then k_M_added3_5 l1 v Q else if o = 4 then k_M_added4_5 l1 v Q else k_M_added5_5 l1 v Q
def F_added_23 (o : Nat) (l1 : Int32) (v : Vv) (Q : Int32 → Vv → Prop) : Prop := if o = 0 then k_M_added0_23 l1 v Q else if o = 1 then k_M_added1_23 l1 v Q else if o = 2 then k_M_added2_23 l1 v Q else if o = 3 then k_M_added3_23 l1 v Q else if o = 4 then k_M_added4_23 l1 v Q else k_M_added5_23 l1 v Q
def F_added_39 (o : Nat) (l1 : Int32) (t0 : Int32) (v : Vv) (Q : Int32 → Vv → Prop) : Prop := if o = 0 then k_M_added0_39 l1 t0 v Q else if o = 1 then k_M_added1_39 l1 t0 v Q else if o = 2 then k_M_added2_39 l1 t0 v Q else if o = 3 then k_M_added3_39 l1 t0 v Q else if o = 4 then k_M_added4_39 l1 t0 v Q else k_M_added5_39 l1 t0 v Q
def F_not (o : Nat)  (v : Vv) (Q : Int32 → Vv → Prop) : Prop := if o = 0 then m_M_not0  v Q else if o = 1 then m_M_not1  v Q else if o = 2 then m_M_not2  v Q else if o = 3 then m_M_not3  v Q else if o = 4 then m_M_not4  v Q else m_M_not5  v Q
def F_not_77 (o : Nat) (l1 : Int32) (v : Vv) (Q : Int32 → Vv → Prop) : Prop := if o = 0 then k_M_not0_77 l1 v Q else if o = 1 then k_M_not1_77 l1 v Q else if o = 2 then k_M_not2_77 l1 v Q else if o = 3 then k_M_not3_77 l1 v Q else if o = 4 then k_M_not4_77 l1 v Q else k_M_not5_50 l1 v Q
def F_not_93 (o : Nat) (l1 : Int32) (t0 : Int32) (v : Vv) (Q : Int32 → Vv → Prop) : Prop := if o = 0 then k_M_not0_93 l1 t0 v Q else if o = 1 then k_M_not1_93 l1 t0 v Q else if o = 2 then k_M_not2_93 l1 t0 v Q else if o = 3 then k_M_not3_93 l1 t0 v Q else if o = 4 then k_M_not4_93 l1 t0 v Q else k_M_not5_66 l1 t0 v Q
def F_both (o : Nat)  (v : Vv) (Q : Int32 → Vv → Prop) : Prop := if o = 0 then m_M_both0  v Q else if o = 1 then m_M_both1  v Q else if o = 2 then m_M_both2  v Q else if o = 3 then m_M_both3  v Q else if o = 4 then m_M_both4  v Q else m_M_both5  v Q
def F_both_5 (o : Nat) (l1 : Int32) (v : Vv) (Q : Int32 → Vv → Prop) : Prop := if o = 0 then k_M_both0_5 l1 v Q else if o = 1 then k_M_both1_5 l1 v Q else if o = 2 then k_M_both2_5 l1 v Q else if o = 3 then k_M_both3_5 l1 v Q else if o = 4 then k_M_both4_5 l1 v Q else k_M_both5_5 l1 v Q
def F_either (o : Nat)  (v : Vv) (Q : Int32 → Vv → Prop) : Prop := if o = 0 then m_M_either0  v Q else if o = 1 then m_M_either1  v Q else if o = 2 then m_M_either2  v Q else if o = 3 then m_M_either3  v Q else if o = 4 then m_M_either4  v Q else m_M_either5  v Q
def F_either_5 (o : Nat) (l1 : Int32) (v : Vv) (Q : Int32 → Vv → Prop) : Prop := if o = 0 then k_M_either0_5 l1 v Q else if o = 1 then k_M_either1_5 l1 v Q else if o = 2 then k_M_either2_5 l1 v Q else if o = 3 then k_M_either3_5 l1 v Q else if o = 4 then k_M_either4_5 l1 v Q else k_M_either5_5 l1 v Q
theorem f_atom {o : Nat} (ho : o ≤ 4) {v : Vv} {Q : Int32 → Vv → Prop} (h : m_M_isSign (45 : Int32) (v) (fun x1 v2 => if x1 = true then (m_M_opens  (v2) (fun x4 v5 => if x4 = true then (F_atom (o + 1)  (v5) (fun x7 v8 => Q ((-x7)) (sI (v8) 154 28 ((v8).1 154 28 - (1 : Int32))))) else (Q ((0 : Int32)) (v5)))) else (m_M_isSign (40 : Int32) (v2) (fun x9 v10 => if x9 = true then (m_M_opens  (v10) (fun x12 v13 => if x12 = true then (F_either (o + 1)  (v13) (fun x15 v16 => m_M_isSign (41 : Int32) (v16) (fun x17 v18 => if x17 = true then (F_atom_71 o (x15) (v18) Q) else (m_M_fail  (v18) (fun v21 => F_atom_71 o (x15) (v21) Q))))) else (Q ((0 : Int32)) (v13)))) else (if (v10).1 154 29 = (0 : Int32) then (if (v10).1 154 25 = (2 : Int32) then (m_M_next  (v10) (fun v25 => Q (((v10).2.1 154 27).toInt32) (v25))) else (F_atom_123 o ((0 : Int32)) (v10) Q)) else (F_atom_123 o ((0 : Int32)) (v10) Q)))))) : F_atom o  v Q := by
  have : o = 0 ∨ o = 1 ∨ o = 2 ∨ o = 3 ∨ o = 4 := by omega
  rcases this with rfl | rfl | rfl | rfl | rfl
  · exact s_M_atom0 h
  · exact s_M_atom1 h
  · exact s_M_atom2 h
  · exact s_M_atom3 h
  · exact s_M_atom4 h
theorem f_atom_71 {o : Nat} (ho : o ≤ 4) {l1 : Int32} {v : Vv} {Q : Int32 → Vv → Prop} (h : if (sI (v) 154 28 ((v).1 154 28 - (1 : Int32))).1 154 29 = (0 : Int32) then (m_M_next  (sI (v) 154 28 ((v).1 154 28 - (1 : Int32))) (fun v28 => Q (l1) (v28))) else (Q (l1) (sI (v) 154 28 ((v).1 154 28 - (1 : Int32))))) : F_atom_71 o l1 v Q := by
  have : o = 0 ∨ o = 1 ∨ o = 2 ∨ o = 3 ∨ o = 4 := by omega
  rcases this with rfl | rfl | rfl | rfl | rfl
  · exact s_M_atom0_71 h
  · exact s_M_atom1_71 h
  · exact s_M_atom2_71 h
  · exact s_M_atom3_71 h
  · exact s_M_atom4_71 h
theorem f_atom_123 {o : Nat} (ho : o ≤ 5) {l1 : Int32} {v : Vv} {Q : Int32 → Vv → Prop} (h : if (v).1 154 29 = (0 : Int32) then (if (v).1 154 25 = (1 : Int32) then (m_M_name  (v) (fun x31 v32 => if (v32).1 154 29 = (0 : Int32) then (m_M_next  (v32) (fun v35 => Q (x31) (v35))) else (Q (x31) (v32)))) else (F_atom_157 o (l1) (v) Q)) else (F_atom_157 o (l1) (v) Q)) : F_atom_123 o l1 v Q := by
  have : o = 0 ∨ o = 1 ∨ o = 2 ∨ o = 3 ∨ o = 4 ∨ o = 5 := by omega
  rcases this with rfl | rfl | rfl | rfl | rfl | rfl
  · exact s_M_atom0_123 h
  · exact s_M_atom1_123 h
  · exact s_M_atom2_123 h
  · exact s_M_atom3_123 h
  · exact s_M_atom4_123 h
  · exact s_M_atom5_64 h
theorem f_atom_157 {o : Nat} (ho : o ≤ 5) {l1 : Int32} {v : Vv} {Q : Int32 → Vv → Prop} (h : m_M_fail  (v) (fun v37 => Q (l1) (v37))) : F_atom_157 o l1 v Q := by
  have : o = 0 ∨ o = 1 ∨ o = 2 ∨ o = 3 ∨ o = 4 ∨ o = 5 := by omega
  rcases this with rfl | rfl | rfl | rfl | rfl | rfl
  · exact s_M_atom0_157 h
  · exact s_M_atom1_157 h
  · exact s_M_atom2_157 h
  · exact s_M_atom3_157 h
  · exact s_M_atom4_157 h
  · exact s_M_atom5_98 h
theorem f_term {o : Nat} (ho : o ≤ 5) {v : Vv} {Q : Int32 → Vv → Prop} (h : F_atom o  (v) (fun x1 v2 => F_term_5 o (x1) (v2) Q)) : F_term o  v Q := by
  have : o = 0 ∨ o = 1 ∨ o = 2 ∨ o = 3 ∨ o = 4 ∨ o = 5 := by omega
  rcases this with rfl | rfl | rfl | rfl | rfl | rfl
  · exact s_M_term0 h
  · exact s_M_term1 h
  · exact s_M_term2 h
  · exact s_M_term3 h
  · exact s_M_term4 h
  · exact s_M_term5 h
theorem f_term_5 {o : Nat} (ho : o ≤ 5) {l1 : Int32} {v : Vv} {Q : Int32 → Vv → Prop} (h : m_M_isSign (42 : Int32) (v) (fun x3 v4 => if x3 = true then (m_M_next  (v4) (fun v7 => F_atom o  (v7) (fun x8 v9 => F_term_5 o ((l1 * x8)) (v9) Q))) else (Q (l1) (v4)))) : F_term_5 o l1 v Q := by
  have : o = 0 ∨ o = 1 ∨ o = 2 ∨ o = 3 ∨ o = 4 ∨ o = 5 := by omega
  rcases this with rfl | rfl | rfl | rfl | rfl | rfl
  · exact s_M_term0_5 h
  · exact s_M_term1_5 h
  · exact s_M_term2_5 h
  · exact s_M_term3_5 h
  · exact s_M_term4_5 h
  · exact s_M_term5_5 h
theorem f_added {o : Nat} (ho : o ≤ 5) {v : Vv} {Q : Int32 → Vv → Prop} (h : F_term o  (v) (fun x1 v2 => F_added_5 o (x1) (v2) Q)) : F_added o  v Q := by
  have : o = 0 ∨ o = 1 ∨ o = 2 ∨ o = 3 ∨ o = 4 ∨ o = 5 := by omega
  rcases this with rfl | rfl | rfl | rfl | rfl | rfl
  · exact s_M_added0 h
  · exact s_M_added1 h
  · exact s_M_added2 h
  · exact s_M_added3 h
  · exact s_M_added4 h
  · exact s_M_added5 h
theorem f_added_5 {o : Nat} (ho : o ≤ 5) {l1 : Int32} {v : Vv} {Q : Int32 → Vv → Prop} (h : m_M_isSign (43 : Int32) (v) (fun x3 v4 => if x3 = true then (F_added_23 o (l1) (v4) Q) else (m_M_isSign (45 : Int32) (v4) (fun x6 v7 => if x6 = true then (F_added_23 o (l1) (v7) Q) else (Q (l1) (v7)))))) : F_added_5 o l1 v Q := by
  have : o = 0 ∨ o = 1 ∨ o = 2 ∨ o = 3 ∨ o = 4 ∨ o = 5 := by omega
  rcases this with rfl | rfl | rfl | rfl | rfl | rfl
  · exact s_M_added0_5 h
  · exact s_M_added1_5 h
  · exact s_M_added2_5 h
  · exact s_M_added3_5 h
  · exact s_M_added4_5 h
  · exact s_M_added5_5 h
theorem f_added_23 {o : Nat} (ho : o ≤ 5) {l1 : Int32} {v : Vv} {Q : Int32 → Vv → Prop} (h : if (v).2.1 154 27 = (43 : Int64) then (F_added_39 o (l1) ((1 : Int32)) (v) Q) else (F_added_39 o (l1) ((0 : Int32)) (v) Q)) : F_added_23 o l1 v Q := by
  have : o = 0 ∨ o = 1 ∨ o = 2 ∨ o = 3 ∨ o = 4 ∨ o = 5 := by omega
  rcases this with rfl | rfl | rfl | rfl | rfl | rfl
  · exact s_M_added0_23 h
  · exact s_M_added1_23 h
  · exact s_M_added2_23 h
  · exact s_M_added3_23 h
  · exact s_M_added4_23 h
  · exact s_M_added5_23 h
theorem f_added_39 {o : Nat} (ho : o ≤ 5) {l1 : Int32} {t0 : Int32} {v : Vv} {Q : Int32 → Vv → Prop} (h : m_M_next  (v) (fun v11 => F_term o  (v11) (fun x12 v13 => F_added_5 o ((if t0 = (0 : Int32) then (l1 - x12) else (l1 + x12))) (v13) Q))) : F_added_39 o l1 t0 v Q := by
  have : o = 0 ∨ o = 1 ∨ o = 2 ∨ o = 3 ∨ o = 4 ∨ o = 5 := by omega
  rcases this with rfl | rfl | rfl | rfl | rfl | rfl
  · exact s_M_added0_39 h
  · exact s_M_added1_39 h
  · exact s_M_added2_39 h
  · exact s_M_added3_39 h
  · exact s_M_added4_39 h
  · exact s_M_added5_39 h
theorem f_not {o : Nat} (ho : o ≤ 4) {v : Vv} {Q : Int32 → Vv → Prop} (h : m_M_isWord (110 : Int32) (111 : Int32) (116 : Int32) (0 : Int32) (0 : Int32) (0 : Int32) (0 : Int32) (0 : Int32) (v) (fun x1 v2 => if x1 = true then (m_M_opens  (v2) (fun x4 v5 => if x4 = true then (F_not (o + 1)  (v5) (fun x7 v8 => Q (bI ((if x7 = (0 : Int32) then true else false))) (sI (v8) 154 28 ((v8).1 154 28 - (1 : Int32))))) else (Q ((0 : Int32)) (v5)))) else (F_added o  (v2) (fun x10 v11 => m_M_isSign (60 : Int32) (v11) (fun x12 v13 => if x12 = true then (F_not_77 o (x10) (v13) Q) else (m_M_isSign (61 : Int32) (v13) (fun x15 v16 => if x15 = true then (F_not_77 o (x10) (v16) Q) else (Q (x10) (v16))))))))) : F_not o  v Q := by
  have : o = 0 ∨ o = 1 ∨ o = 2 ∨ o = 3 ∨ o = 4 := by omega
  rcases this with rfl | rfl | rfl | rfl | rfl
  · exact s_M_not0 h
  · exact s_M_not1 h
  · exact s_M_not2 h
  · exact s_M_not3 h
  · exact s_M_not4 h
theorem f_not_77 {o : Nat} (ho : o ≤ 5) {l1 : Int32} {v : Vv} {Q : Int32 → Vv → Prop} (h : if (v).2.1 154 27 = (60 : Int64) then (F_not_93 o (l1) ((1 : Int32)) (v) Q) else (F_not_93 o (l1) ((0 : Int32)) (v) Q)) : F_not_77 o l1 v Q := by
  have : o = 0 ∨ o = 1 ∨ o = 2 ∨ o = 3 ∨ o = 4 ∨ o = 5 := by omega
  rcases this with rfl | rfl | rfl | rfl | rfl | rfl
  · exact s_M_not0_77 h
  · exact s_M_not1_77 h
  · exact s_M_not2_77 h
  · exact s_M_not3_77 h
  · exact s_M_not4_77 h
  · exact s_M_not5_50 h
theorem f_not_93 {o : Nat} (ho : o ≤ 5) {l1 : Int32} {t0 : Int32} {v : Vv} {Q : Int32 → Vv → Prop} (h : m_M_next  (v) (fun v20 => F_added o  (v20) (fun x21 v22 => Q (bI ((if t0 = (0 : Int32) then (if l1 = x21 then true else false) else (if l1 < x21 then true else false)))) (v22)))) : F_not_93 o l1 t0 v Q := by
  have : o = 0 ∨ o = 1 ∨ o = 2 ∨ o = 3 ∨ o = 4 ∨ o = 5 := by omega
  rcases this with rfl | rfl | rfl | rfl | rfl | rfl
  · exact s_M_not0_93 h
  · exact s_M_not1_93 h
  · exact s_M_not2_93 h
  · exact s_M_not3_93 h
  · exact s_M_not4_93 h
  · exact s_M_not5_66 h
theorem f_both {o : Nat} (ho : o ≤ 5) {v : Vv} {Q : Int32 → Vv → Prop} (h : F_not o  (v) (fun x1 v2 => F_both_5 o (x1) (v2) Q)) : F_both o  v Q := by
  have : o = 0 ∨ o = 1 ∨ o = 2 ∨ o = 3 ∨ o = 4 ∨ o = 5 := by omega
  rcases this with rfl | rfl | rfl | rfl | rfl | rfl
  · exact s_M_both0 h
  · exact s_M_both1 h
  · exact s_M_both2 h
  · exact s_M_both3 h
  · exact s_M_both4 h
  · exact s_M_both5 h
theorem f_both_5 {o : Nat} (ho : o ≤ 5) {l1 : Int32} {v : Vv} {Q : Int32 → Vv → Prop} (h : m_M_isWord (97 : Int32) (110 : Int32) (100 : Int32) (0 : Int32) (0 : Int32) (0 : Int32) (0 : Int32) (0 : Int32) (v) (fun x3 v4 => if x3 = true then (m_M_next  (v4) (fun v7 => F_not o  (v7) (fun x8 v9 => F_both_5 o (bI ((if l1 = (0 : Int32) then false else (if x8 = (0 : Int32) then false else true)))) (v9) Q))) else (Q (l1) (v4)))) : F_both_5 o l1 v Q := by
  have : o = 0 ∨ o = 1 ∨ o = 2 ∨ o = 3 ∨ o = 4 ∨ o = 5 := by omega
  rcases this with rfl | rfl | rfl | rfl | rfl | rfl
  · exact s_M_both0_5 h
  · exact s_M_both1_5 h
  · exact s_M_both2_5 h
  · exact s_M_both3_5 h
  · exact s_M_both4_5 h
  · exact s_M_both5_5 h
theorem f_either {o : Nat} (ho : o ≤ 5) {v : Vv} {Q : Int32 → Vv → Prop} (h : F_both o  (v) (fun x1 v2 => F_either_5 o (x1) (v2) Q)) : F_either o  v Q := by
  have : o = 0 ∨ o = 1 ∨ o = 2 ∨ o = 3 ∨ o = 4 ∨ o = 5 := by omega
  rcases this with rfl | rfl | rfl | rfl | rfl | rfl
  · exact s_M_either0 h
  · exact s_M_either1 h
  · exact s_M_either2 h
  · exact s_M_either3 h
  · exact s_M_either4 h
  · exact s_M_either5 h
theorem f_either_5 {o : Nat} (ho : o ≤ 5) {l1 : Int32} {v : Vv} {Q : Int32 → Vv → Prop} (h : m_M_isWord (111 : Int32) (114 : Int32) (0 : Int32) (0 : Int32) (0 : Int32) (0 : Int32) (0 : Int32) (0 : Int32) (v) (fun x3 v4 => if x3 = true then (m_M_next  (v4) (fun v7 => F_both o  (v7) (fun x8 v9 => F_either_5 o (bI ((if l1 = (0 : Int32) then (if x8 = (0 : Int32) then false else true) else true))) (v9) Q))) else (Q (l1) (v4)))) : F_either_5 o l1 v Q := by
  have : o = 0 ∨ o = 1 ∨ o = 2 ∨ o = 3 ∨ o = 4 ∨ o = 5 := by omega
  rcases this with rfl | rfl | rfl | rfl | rfl | rfl
  · exact s_M_either0_5 h
  · exact s_M_either1_5 h
  · exact s_M_either2_5 h
  · exact s_M_either3_5 h
  · exact s_M_either4_5 h
  · exact s_M_either5_5 h
