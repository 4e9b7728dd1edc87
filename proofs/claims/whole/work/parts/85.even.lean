/-! AN EVENING: its state (hall, counters, ill, told), and the two memories that hold it -/
abbrev xS : Type := xT2 × (Nat → Nat) × Int32 × Int32
def qu (q : Nat → Nat) (i v : Nat) : Nat → Nat := fun j => if j = i then v else q j
def wh (w : Nat) : Int32 := if w = 10 then -2 else nI w
def wn (n : Nat) : Int32 := if n = 0 then -2 else nI n
def QC (q : Nat → Nat) (C : xMem) : Prop := (∀ i, i < 7 → gi C 78 (6 + i) = nI (q i)) ∧ gi C 78 13 = wh (q 7) ∧ gi C 78 14 = wn (q 8) ∧ gi C 78 5 = nI (q 9)
def QM (q : Nat → Nat) (M : xMem) : Prop := (∀ i, i < 7 → gi M 0 (71 + i) = nI (q i)) ∧ gi M 0 78 = wh (q 7) ∧ gi M 0 79 = wn (q 8)
def evC (o c i : Nat) : Prop := cntC c i ∧ ¬ (o ≤ c ∧ c ≤ o + 8)
def evM (c i : Nat) : Prop := (cntM c i ∨ c = 41 ∨ (42 ≤ c ∧ c ≤ 54)) ∧ ¬ (c = 28 ∨ (30 ≤ c ∧ c ≤ 38) ∨ (c = 0 ∧ (i = 65 ∨ i = 66 ∨ i = 67 ∨ i = 2)))
def EvC (o o1 : Nat) (C0 : xMem) (st : xS) (C : xMem) : Prop := gi C 78 3 = nI o ∧ gi C 78 4 = nI o1 ∧ HC o st.1 st.2.2.1 st.2.2.2 C ∧ QC st.2.1 C ∧ ∀ c i, evC o c i → gi C c i = gi C0 c i
def EvM (r : Nat) (M0 : xMem) (st : xS) (M : xMem) : Prop := gi M 0 27 = nI r ∧ HM st.1 st.2.2.1 st.2.2.2 M ∧ QM st.2.1 M ∧ ∀ c i, evM c i → ¬ (c = 0 ∧ i = 27) → gi M c i = gi M0 c i
def CxC (S : Nat → List Nat) (e : xT2) (V : xV) (o o1 : Nat) (C0 : xMem) : Prop := (o = 49 ∨ o = 67) ∧ (o1 = 18 ∨ o1 = 25) ∧ okV V ∧ semC o1 V C0 ∧ wfE e ∧ EC e C0 ∧ ∀ k, k < 6 → wfS (S k) ∧ SC (S k) k C0
def CxM (S : Nat → List Nat) (e : xT2) (V : xV) (r : Nat) (M0 : xMem) : Prop := r < 2 ∧ okV V ∧ semM r V M0 ∧ wfE e ∧ EM e M0 ∧ ∀ k, k < 6 → wfS (S k) ∧ SM (S k) k M0
/-- a state that can be -/
def wfX (S : Nat → List Nat) (N : Nat) (st : xS) : Prop := wfH S st.1 ∧ (∀ k, k < 4 → st.1 3 k ≤ (S (st.1 1 k)).length) ∧ st.2.1 3 ≤ N ∧ (st.2.1 3 = 0 ↔ st.2.1 7 = 10) ∧ st.2.1 7 ≤ 10
theorem kC_o {o : Nat} (h : o = 49 ∨ o = 67) : kC ((nI o).toNatClampNeg) = 4 := by rcases h with rfl | rfl <;> decide
theorem kC_o1 {o : Nat} (h : o = 18 ∨ o = 25) : kC ((nI o).toNatClampNeg) = 5 := by rcases h with rfl | rfl <;> decide
/-! updates of halls -/
theorem h2u_s (h : xT2) (r i v : Nat) : h2u h r i v r i = v := if_pos ⟨rfl, rfl⟩
theorem HC_u2 {o : Nat} {h : xT2} {il to : Int32} {C : xMem} (H : HC o h il to C) (k v : Nat) : HC o (h2u h 2 k v) il to (si C (o + 2) k (nI v)) := by
  obtain ⟨a1, a2, a3, a4, a5, a6, a7, a8⟩ := H
  refine ⟨by simpa [gi_si, h2u] using a1, by simpa [gi_si, h2u] using a2, by simpa [gi_si, h2u] using a3, by simpa [gi_si, h2u] using a4, by simpa [gi_si, h2u] using a5, by simpa [gi_si, h2u] using a6, fun j hj => ?_, by simpa [gi_si, h2u] using a8⟩
  by_cases e : j = k
  · subst e; simpa [gi_si, h2u] using ⟨(a7 j hj).1, (a7 j hj).2.2⟩
  · simpa [gi_si, h2u, e] using a7 j hj
theorem HC_u3 {o : Nat} {h : xT2} {il to : Int32} {C : xMem} (H : HC o h il to C) (k v : Nat) : HC o (h2u h 3 k v) il to (si C (o + 3) k (nI v)) := by
  obtain ⟨a1, a2, a3, a4, a5, a6, a7, a8⟩ := H
  refine ⟨by simpa [gi_si, h2u] using a1, by simpa [gi_si, h2u] using a2, by simpa [gi_si, h2u] using a3, by simpa [gi_si, h2u] using a4, by simpa [gi_si, h2u] using a5, by simpa [gi_si, h2u] using a6, fun j hj => ?_, by simpa [gi_si, h2u] using a8⟩
  by_cases e : j = k
  · subst e; simpa [gi_si, h2u] using ⟨(a7 j hj).1, (a7 j hj).2.1, (a7 j hj).2.2.2⟩
  · simpa [gi_si, h2u, e] using a7 j hj
theorem HC_u4 {o : Nat} {h : xT2} {il to : Int32} {C : xMem} (H : HC o h il to C) (k v : Nat) : HC o (h2u h 4 k v) il to (si C (o + 4) k (nI v)) := by
  obtain ⟨a1, a2, a3, a4, a5, a6, a7, a8⟩ := H
  refine ⟨by simpa [gi_si, h2u] using a1, by simpa [gi_si, h2u] using a2, by simpa [gi_si, h2u] using a3, by simpa [gi_si, h2u] using a4, by simpa [gi_si, h2u] using a5, by simpa [gi_si, h2u] using a6, fun j hj => ?_, by simpa [gi_si, h2u] using a8⟩
  by_cases e : j = k
  · subst e; simpa [gi_si, h2u] using ⟨(a7 j hj).1, (a7 j hj).2.1, (a7 j hj).2.2.1⟩
  · simpa [gi_si, h2u, e] using a7 j hj
theorem HC_u6 {o : Nat} {h : xT2} {il to : Int32} {C : xMem} (H : HC o h il to C) (l : Nat) : HC o (h2u h 6 l 4) il to (si C (o + 5) l (-2)) := by
  obtain ⟨a1, a2, a3, a4, a5, a6, a7, a8⟩ := H
  refine ⟨by simpa [gi_si, h2u] using a1, by simpa [gi_si, h2u] using a2, by simpa [gi_si, h2u] using a3, by simpa [gi_si, h2u] using a4, by simpa [gi_si, h2u] using a5, by simpa [gi_si, h2u] using a6, by simpa [gi_si, h2u] using a7, fun j hj => ?_⟩
  by_cases e : j = l
  · subst e; simpa [gi_si, h2u, bnd] using (a8 j hj).2
  · simpa [gi_si, h2u, e] using a8 j hj
theorem HC_u8 {o : Nat} {h : xT2} {il to : Int32} {C : xMem} (H : HC o h il to C) (l v : Nat) : HC o (h2u h 8 l v) il to (si C (o + 7) l (nI v)) := by
  obtain ⟨a1, a2, a3, a4, a5, a6, a7, a8⟩ := H
  refine ⟨by simpa [gi_si, h2u] using a1, by simpa [gi_si, h2u] using a2, by simpa [gi_si, h2u] using a3, by simpa [gi_si, h2u] using a4, by simpa [gi_si, h2u] using a5, by simpa [gi_si, h2u] using a6, by simpa [gi_si, h2u] using a7, fun j hj => ?_⟩
  by_cases e : j = l
  · subst e; simpa [gi_si, h2u] using ⟨(a8 j hj).1, (a8 j hj).2.1, (a8 j hj).2.2.2⟩
  · simpa [gi_si, h2u, e] using a8 j hj
theorem HC_u9 {o : Nat} {h : xT2} {il to : Int32} {C : xMem} (H : HC o h il to C) (l v : Nat) : HC o (h2u h 9 l v) il to (si C (o + 8) l (nI v)) := by
  obtain ⟨a1, a2, a3, a4, a5, a6, a7, a8⟩ := H
  refine ⟨by simpa [gi_si, h2u] using a1, by simpa [gi_si, h2u] using a2, by simpa [gi_si, h2u] using a3, by simpa [gi_si, h2u] using a4, by simpa [gi_si, h2u] using a5, by simpa [gi_si, h2u] using a6, by simpa [gi_si, h2u] using a7, fun j hj => ?_⟩
  by_cases e : j = l
  · subst e; simpa [gi_si, h2u] using ⟨(a8 j hj).1, (a8 j hj).2.1, (a8 j hj).2.2.1⟩
  · simpa [gi_si, h2u, e] using a8 j hj
theorem HC_u10 {o : Nat} {h : xT2} {il to : Int32} {C : xMem} (H : HC o h il to C) (v : Nat) : HC o (h2u h 10 0 v) il to (si C o 10 (nI v)) := by
  obtain ⟨a1, a2, a3, a4, a5, a6, a7, a8⟩ := H
  exact ⟨by simpa [gi_si, h2u] using a1, by simpa [gi_si, h2u] using a2, by simp [gi_si, h2u], by simpa [gi_si, h2u] using a4, by simpa [gi_si, h2u] using a5, by simpa [gi_si, h2u] using a6, by simpa [gi_si, h2u] using a7, by simpa [gi_si, h2u] using a8⟩
theorem HC_u13 {o : Nat} {h : xT2} {il to : Int32} {C : xMem} (H : HC o h il to C) (v : Nat) : HC o (h2u h 13 0 v) il to (si C o 13 (nI v)) := by
  obtain ⟨a1, a2, a3, a4, a5, a6, a7, a8⟩ := H
  exact ⟨by simpa [gi_si, h2u] using a1, by simpa [gi_si, h2u] using a2, by simpa [gi_si, h2u] using a3, by simpa [gi_si, h2u] using a4, by simpa [gi_si, h2u] using a5, by simp [gi_si, h2u], by simpa [gi_si, h2u] using a7, by simpa [gi_si, h2u] using a8⟩
theorem HC_ui {o : Nat} {h : xT2} {il to : Int32} {C : xMem} (H : HC o h il to C) (v : Int32) : HC o h v to (si C o 11 v) := by
  obtain ⟨a1, a2, a3, a4, a5, a6, a7, a8⟩ := H
  exact ⟨by simpa [gi_si] using a1, by simpa [gi_si] using a2, by simpa [gi_si] using a3, by simp [gi_si], by simpa [gi_si] using a5, by simpa [gi_si] using a6, by simpa [gi_si] using a7, by simpa [gi_si] using a8⟩
theorem HC_ut {o : Nat} {h : xT2} {il to : Int32} {C : xMem} (H : HC o h il to C) (v : Int32) : HC o h il v (si C o 12 v) := by
  obtain ⟨a1, a2, a3, a4, a5, a6, a7, a8⟩ := H
  exact ⟨by simpa [gi_si] using a1, by simpa [gi_si] using a2, by simpa [gi_si] using a3, by simpa [gi_si] using a4, by simp [gi_si], by simpa [gi_si] using a6, by simpa [gi_si] using a7, by simpa [gi_si] using a8⟩
theorem HM_u2 {h : xT2} {il to : Int32} {M : xMem} (H : HM h il to M) (k v : Nat) : HM (h2u h 2 k v) il to (si M 32 k (nI v)) := by
  obtain ⟨b1, b2, b3, b4, b5, b6⟩ := H
  refine ⟨fun j hj => ?_, by simpa [gi_si, h2u] using b2, by simpa [gi_si, h2u] using b3, by simpa [gi_si, h2u] using b4, by simpa [gi_si, h2u] using b5, by simpa [gi_si, h2u] using b6⟩
  by_cases e : j = k
  · subst e; simpa [gi_si, h2u] using ⟨(b1 j hj).1, (b1 j hj).2.1, (b1 j hj).2.2.2⟩
  · simpa [gi_si, h2u, e] using b1 j hj
theorem HM_u3 {h : xT2} {il to : Int32} {M : xMem} (H : HM h il to M) (k v : Nat) : HM (h2u h 3 k v) il to (si M 33 k (nI v)) := by
  obtain ⟨b1, b2, b3, b4, b5, b6⟩ := H
  refine ⟨fun j hj => ?_, by simpa [gi_si, h2u] using b2, by simpa [gi_si, h2u] using b3, by simpa [gi_si, h2u] using b4, by simpa [gi_si, h2u] using b5, by simpa [gi_si, h2u] using b6⟩
  by_cases e : j = k
  · subst e; simpa [gi_si, h2u] using ⟨(b1 j hj).1, (b1 j hj).2.1, (b1 j hj).2.2.1, (b1 j hj).2.2.2.2⟩
  · simpa [gi_si, h2u, e] using b1 j hj
theorem HM_u4 {h : xT2} {il to : Int32} {M : xMem} (H : HM h il to M) (k v : Nat) : HM (h2u h 4 k v) il to (si M 34 k (nI v)) := by
  obtain ⟨b1, b2, b3, b4, b5, b6⟩ := H
  refine ⟨fun j hj => ?_, by simpa [gi_si, h2u] using b2, by simpa [gi_si, h2u] using b3, by simpa [gi_si, h2u] using b4, by simpa [gi_si, h2u] using b5, by simpa [gi_si, h2u] using b6⟩
  by_cases e : j = k
  · subst e; simpa [gi_si, h2u] using ⟨(b1 j hj).1, (b1 j hj).2.1, (b1 j hj).2.2.1, (b1 j hj).2.2.2.1⟩
  · simpa [gi_si, h2u, e] using b1 j hj
theorem HM_u6 {h : xT2} {il to : Int32} {M : xMem} (H : HM h il to M) (l : Nat) : HM (h2u h 6 l 4) il to (si M 36 l (-1)) := by
  obtain ⟨b1, b2, b3, b4, b5, b6⟩ := H
  refine ⟨by simpa [gi_si, h2u] using b1, fun j hj => ?_, by simpa [gi_si, h2u] using b3, by simpa [gi_si, h2u] using b4, by simpa [gi_si, h2u] using b5, by simpa [gi_si, h2u] using b6⟩
  by_cases e : j = l
  · subst e; simpa [gi_si, h2u, bnd] using ⟨(b2 j hj).1, (b2 j hj).2.2⟩
  · simpa [gi_si, h2u, e] using b2 j hj
theorem HM_u8 {h : xT2} {il to : Int32} {M : xMem} (H : HM h il to M) (l v : Nat) : HM (h2u h 8 l v) il to (si M 38 l (nI v)) := by
  obtain ⟨b1, b2, b3, b4, b5, b6⟩ := H
  refine ⟨by simpa [gi_si, h2u] using b1, fun j hj => ?_, by simpa [gi_si, h2u] using b3, by simpa [gi_si, h2u] using b4, by simpa [gi_si, h2u] using b5, by simpa [gi_si, h2u] using b6⟩
  by_cases e : j = l
  · subst e; simpa [gi_si, h2u] using ⟨(b2 j hj).1, (b2 j hj).2.1, (b2 j hj).2.2.1, (b2 j hj).2.2.2.2⟩
  · simpa [gi_si, h2u, e] using b2 j hj
theorem HM_u9 {h : xT2} {il to : Int32} {M : xMem} (H : HM h il to M) (l v : Nat) : HM (h2u h 9 l v) il to (si M 28 l (nI v)) := by
  obtain ⟨b1, b2, b3, b4, b5, b6⟩ := H
  refine ⟨by simpa [gi_si, h2u] using b1, fun j hj => ?_, by simpa [gi_si, h2u] using b3, by simpa [gi_si, h2u] using b4, by simpa [gi_si, h2u] using b5, by simpa [gi_si, h2u] using b6⟩
  by_cases e : j = l
  · subst e; simpa [gi_si, h2u] using ⟨(b2 j hj).1, (b2 j hj).2.1, (b2 j hj).2.2.1, (b2 j hj).2.2.2.1⟩
  · simpa [gi_si, h2u, e] using b2 j hj
theorem HM_u10 {h : xT2} {il to : Int32} {M : xMem} (H : HM h il to M) (v : Nat) : HM (h2u h 10 0 v) il to (si M 0 65 (nI v)) := by
  obtain ⟨b1, b2, b3, b4, b5, b6⟩ := H
  exact ⟨by simpa [gi_si, h2u] using b1, by simpa [gi_si, h2u] using b2, by simp [gi_si, h2u], by simpa [gi_si, h2u] using b4, by simpa [gi_si, h2u] using b5, by simpa [gi_si, h2u] using b6⟩
theorem HM_u13 {h : xT2} {il to : Int32} {M : xMem} (H : HM h il to M) (v : Nat) : HM (h2u h 13 0 v) il to (si M 0 2 (nI v)) := by
  obtain ⟨b1, b2, b3, b4, b5, b6⟩ := H
  exact ⟨by simpa [gi_si, h2u] using b1, by simpa [gi_si, h2u] using b2, by simpa [gi_si, h2u] using b3, by simpa [gi_si, h2u] using b4, by simpa [gi_si, h2u] using b5, by simp [gi_si, h2u]⟩
theorem HM_ui {h : xT2} {il to : Int32} {M : xMem} (H : HM h il to M) (v : Int32) : HM h v to (si M 0 66 v) := by
  obtain ⟨b1, b2, b3, b4, b5, b6⟩ := H
  exact ⟨by simpa [gi_si] using b1, by simpa [gi_si] using b2, by simpa [gi_si] using b3, by simp [gi_si], by simpa [gi_si] using b5, by simpa [gi_si] using b6⟩
theorem HM_ut {h : xT2} {il to : Int32} {M : xMem} (H : HM h il to M) (v : Int32) : HM h il v (si M 0 67 v) := by
  obtain ⟨b1, b2, b3, b4, b5, b6⟩ := H
  exact ⟨by simpa [gi_si] using b1, by simpa [gi_si] using b2, by simpa [gi_si] using b3, by simpa [gi_si] using b4, by simp [gi_si], by simpa [gi_si] using b6⟩
theorem QC_u {q : Nat → Nat} {C : xMem} (H : QC q C) {i : Nat} (hi : i < 7) (v : Nat) : QC (qu q i v) (si C 78 (6 + i) (nI v)) := by
  obtain ⟨a, b, c, d⟩ := H
  refine ⟨fun j hj => ?_, ?_, ?_, ?_⟩
  · by_cases e : j = i
    · subst e; rw [g_same]; simp [qu]
    · rw [g_i (by omega), a j hj]; simp [qu, e]
  · rw [g_i (by omega), b]; simp [qu, show ¬ 7 = i by omega]
  · rw [g_i (by omega), c]; simp [qu, show ¬ 8 = i by omega]
  · rw [g_i (by omega), d]; simp [qu, show ¬ 9 = i by omega]
theorem QM_u {q : Nat → Nat} {M : xMem} (H : QM q M) {i : Nat} (hi : i < 7) (v : Nat) : QM (qu q i v) (si M 0 (71 + i) (nI v)) := by
  obtain ⟨a, b, c⟩ := H
  refine ⟨fun j hj => ?_, ?_, ?_⟩
  · by_cases e : j = i
    · subst e; rw [g_same]; simp [qu]
    · rw [g_i (by omega), a j hj]; simp [qu, e]
  · rw [g_i (by omega), b]; simp [qu, show ¬ 7 = i by omega]
  · rw [g_i (by omega), c]; simp [qu, show ¬ 8 = i by omega]
theorem QC_k {q : Nat → Nat} {C C' : xMem} (H : QC q C) (h : ∀ i, 5 ≤ i → gi C' 78 i = gi C 78 i) : QC q C' := ⟨fun i hi => by rw [h _ (by omega)]; exact H.1 i hi, by rw [h _ (by omega)]; exact H.2.1, by rw [h _ (by omega)]; exact H.2.2.1, by rw [h _ (by omega)]; exact H.2.2.2⟩
theorem QM_k {q : Nat → Nat} {M M' : xMem} (H : QM q M) (h : ∀ i, 71 ≤ i → i ≤ 79 → gi M' 0 i = gi M 0 i) : QM q M' := ⟨fun i hi => by rw [h _ (by omega) (by omega)]; exact H.1 i hi, by rw [h _ (by omega) (by omega)]; exact H.2.1, by rw [h _ (by omega) (by omega)]; exact H.2.2⟩
