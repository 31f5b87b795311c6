/-! ===== PURE: what the setters of a world do; chains; the abstract traffic ===== -/
theorem i_sI (w : Wd) (g a : Nat) (v : Int32) (h x : Nat) : wd_I (wd_sI w g a v) h x = if h = g ∧ x = a then v else wd_I w h x := rfl
theorem i_sR (w : Wd) (g a : Nat) (v : Option Nat) : wd_I (wd_sR w g a v) = wd_I w := rfl
theorem i_sA (w : Wd) (a i : Nat) (v : Int32) : wd_I (wd_sA w a i v) = wd_I w := rfl
theorem i_sQ (w : Wd) (a i : Nat) (v : Option Nat) : wd_I (wd_sQ w a i v) = wd_I w := rfl
theorem i_sF (w : Wd) (a : Nat) (f : Nat → Int32) : wd_I (wd_sF w a f) = wd_I w := rfl
theorem i_nw (w : Wd) (k n sz : Nat) (h x : Nat) : wd_I (wd_nw w k n sz) h x = if x = wd_H w then 0 else wd_I w h x := rfl
theorem r_sI (w : Wd) (g a : Nat) (v : Int32) : wd_R (wd_sI w g a v) = wd_R w := rfl
theorem r_sR (w : Wd) (g a : Nat) (v : Option Nat) (h x : Nat) : wd_R (wd_sR w g a v) h x = if h = g ∧ x = a then v else wd_R w h x := rfl
theorem r_sA (w : Wd) (a i : Nat) (v : Int32) : wd_R (wd_sA w a i v) = wd_R w := rfl
theorem r_sQ (w : Wd) (a i : Nat) (v : Option Nat) : wd_R (wd_sQ w a i v) = wd_R w := rfl
theorem r_sF (w : Wd) (a : Nat) (f : Nat → Int32) : wd_R (wd_sF w a f) = wd_R w := rfl
theorem r_nw (w : Wd) (k n sz : Nat) (h x : Nat) : wd_R (wd_nw w k n sz) h x = if x = wd_H w then none else wd_R w h x := rfl
theorem a_sI (w : Wd) (g a : Nat) (v : Int32) : wd_A (wd_sI w g a v) = wd_A w := rfl
theorem a_sR (w : Wd) (g a : Nat) (v : Option Nat) : wd_A (wd_sR w g a v) = wd_A w := rfl
theorem a_sA (w : Wd) (a i : Nat) (v : Int32) (h x : Nat) : wd_A (wd_sA w a i v) h x = if h = a ∧ x = i then v else wd_A w h x := rfl
theorem a_sQ (w : Wd) (a i : Nat) (v : Option Nat) : wd_A (wd_sQ w a i v) = wd_A w := rfl
theorem a_sF (w : Wd) (a : Nat) (f : Nat → Int32) (h x : Nat) : wd_A (wd_sF w a f) h x = if h = a then f x else wd_A w h x := rfl
theorem a_nw (w : Wd) (k n sz : Nat) (h x : Nat) : wd_A (wd_nw w k n sz) h x = if h = wd_H w then 0 else wd_A w h x := rfl
theorem q_sI (w : Wd) (g a : Nat) (v : Int32) : wd_Q (wd_sI w g a v) = wd_Q w := rfl
theorem q_sR (w : Wd) (g a : Nat) (v : Option Nat) : wd_Q (wd_sR w g a v) = wd_Q w := rfl
theorem q_sA (w : Wd) (a i : Nat) (v : Int32) : wd_Q (wd_sA w a i v) = wd_Q w := rfl
theorem q_sQ (w : Wd) (a i : Nat) (v : Option Nat) (h x : Nat) : wd_Q (wd_sQ w a i v) h x = if h = a ∧ x = i then v else wd_Q w h x := rfl
theorem q_sF (w : Wd) (a : Nat) (f : Nat → Int32) : wd_Q (wd_sF w a f) = wd_Q w := rfl
theorem q_nw (w : Wd) (k n sz : Nat) (h x : Nat) : wd_Q (wd_nw w k n sz) h x = if h = wd_H w then none else wd_Q w h x := rfl
theorem n_sI (w : Wd) (g a : Nat) (v : Int32) : wd_N (wd_sI w g a v) = wd_N w := rfl
theorem n_sR (w : Wd) (g a : Nat) (v : Option Nat) : wd_N (wd_sR w g a v) = wd_N w := rfl
theorem n_sA (w : Wd) (a i : Nat) (v : Int32) : wd_N (wd_sA w a i v) = wd_N w := rfl
theorem n_sQ (w : Wd) (a i : Nat) (v : Option Nat) : wd_N (wd_sQ w a i v) = wd_N w := rfl
theorem n_sF (w : Wd) (a : Nat) (f : Nat → Int32) : wd_N (wd_sF w a f) = wd_N w := rfl
theorem n_nw (w : Wd) (k n sz : Nat) (x : Nat) : wd_N (wd_nw w k n sz) x = if x = wd_H w then n else wd_N w x := rfl
theorem h_sI (w : Wd) (g a : Nat) (v : Int32) : wd_H (wd_sI w g a v) = wd_H w := rfl
theorem h_sR (w : Wd) (g a : Nat) (v : Option Nat) : wd_H (wd_sR w g a v) = wd_H w := rfl
theorem h_sA (w : Wd) (a i : Nat) (v : Int32) : wd_H (wd_sA w a i v) = wd_H w := rfl
theorem h_sQ (w : Wd) (a i : Nat) (v : Option Nat) : wd_H (wd_sQ w a i v) = wd_H w := rfl
theorem h_sF (w : Wd) (a : Nat) (f : Nat → Int32) : wd_H (wd_sF w a f) = wd_H w := rfl
theorem h_nw (w : Wd) (k n sz : Nat) : wd_H (wd_nw w k n sz) = wd_H w + 1 := rfl
theorem m_sI (w : Wd) (g a : Nat) (v : Int32) : wd_M (wd_sI w g a v) = wd_M w := rfl
theorem m_sR (w : Wd) (g a : Nat) (v : Option Nat) : wd_M (wd_sR w g a v) = wd_M w := rfl
theorem m_sA (w : Wd) (a i : Nat) (v : Int32) : wd_M (wd_sA w a i v) = wd_M w := rfl
theorem m_sQ (w : Wd) (a i : Nat) (v : Option Nat) : wd_M (wd_sQ w a i v) = wd_M w := rfl
theorem m_sF (w : Wd) (a : Nat) (f : Nat → Int32) : wd_M (wd_sF w a f) = wd_M w := rfl
theorem m_nw (w : Wd) (k n sz : Nat) : wd_M (wd_nw w k n sz) = wd_M w - 1 := rfl
theorem s_sI (w : Wd) (g a : Nat) (v : Int32) : wd_S (wd_sI w g a v) = wd_S w := rfl
theorem s_sR (w : Wd) (g a : Nat) (v : Option Nat) : wd_S (wd_sR w g a v) = wd_S w := rfl
theorem s_sA (w : Wd) (a i : Nat) (v : Int32) : wd_S (wd_sA w a i v) = wd_S w := rfl
theorem s_sQ (w : Wd) (a i : Nat) (v : Option Nat) : wd_S (wd_sQ w a i v) = wd_S w := rfl
theorem s_sF (w : Wd) (a : Nat) (f : Nat → Int32) : wd_S (wd_sF w a f) = wd_S w := rfl
theorem s_nw (w : Wd) (k n sz : Nat) : wd_S (wd_nw w k n sz) = wd_S w - sz := rfl
/-- a chain -/
def ls_c (F : Nat → Option Nat) : Option Nat → List Nat → Prop
  | o, [] => o = none
  | o, a :: l => o = some a ∧ ls_c F (F a) l
theorem ls_cong {F G : Nat → Option Nat} {l : List Nat} (h : ∀ a, a ∈ l → G a = F a) : ∀ {o : Option Nat}, ls_c F o l → ls_c G o l := by
  induction l with
  | nil => intro o h1; exact h1
  | cons a l ih =>
    intro o h1
    refine ⟨h1.1, ?_⟩
    rw [h a (List.mem_cons_self ..)]
    exact ih (fun b hb => h b (List.mem_cons_of_mem _ hb)) h1.2
theorem ls_fun {F : Nat → Option Nat} {l m : List Nat} : ∀ {o : Option Nat}, ls_c F o l → ls_c F o m → l = m := by
  induction l generalizing m with
  | nil =>
    intro o h1 h2
    cases m with
    | nil => rfl
    | cons b m => have := h2.1; rw [h1] at this; cases this
  | cons a l ih =>
    intro o h1 h2
    cases m with
    | nil => have := h1.1; rw [h2] at this; cases this
    | cons b m =>
      have e : a = b := by have := h1.1.symm.trans h2.1; exact Option.some.inj this
      subst e
      rw [ih h1.2 h2.2]
theorem ls_nil {F : Nat → Option Nat} {o : Option Nat} (h : ls_c F o []) : o = none := h
theorem ls_snoc {F G : Nat → Option Nat} {l : List Nat} {z q : Nat} (hz : G z = some q) (hq : G q = none) (h : ∀ a, a ∈ l → G a = F a) : ∀ {o : Option Nat}, ls_c F o (l ++ [z]) → ls_c G o (l ++ [z] ++ [q]) := by
  induction l with
  | nil => intro o h1; exact ⟨h1.1, hz, hq⟩
  | cons a l ih =>
    intro o h1
    refine ⟨h1.1, ?_⟩
    rw [h a (List.mem_cons_self ..)]
    exact ih (fun b hb => h b (List.mem_cons_of_mem _ hb)) h1.2
theorem ls_one {F : Nat → Option Nat} {q : Nat} (h : F q = none) : ls_c F (some q) [q] := ⟨rfl, h⟩
/-- two lists, side by side -/
def ls_2 {α : Type} (P : Nat → α → Prop) : List Nat → List α → Prop
  | [], [] => True
  | a :: l, x :: m => P a x ∧ ls_2 P l m
  | [], _ :: _ => False
  | _ :: _, [] => False
theorem ls_2cong {α : Type} {P Q : Nat → α → Prop} {l : List Nat} (h : ∀ a x, a ∈ l → P a x → Q a x) : ∀ {m : List α}, ls_2 P l m → ls_2 Q l m := by
  induction l with
  | nil => intro m h1; cases m with
    | nil => trivial
    | cons b m => exact h1
  | cons a l ih =>
    intro m h1
    cases m with
    | nil => exact h1
    | cons b m => exact ⟨h a b (List.mem_cons_self ..) h1.1, ih (fun c x hc hx => h c x (List.mem_cons_of_mem _ hc) hx) h1.2⟩
theorem ls_2len {α : Type} {P : Nat → α → Prop} {l : List Nat} : ∀ {m : List α}, ls_2 P l m → l.length = m.length := by
  induction l with
  | nil => intro m h1; cases m with
    | nil => rfl
    | cons b m => exact h1.elim
  | cons a l ih =>
    intro m h1
    cases m with
    | nil => exact h1.elim
    | cons b m => rw [List.length_cons, List.length_cons, ih h1.2]
theorem ls_2app {α : Type} {P : Nat → α → Prop} {l : List Nat} {a : Nat} {x : α} (hx : P a x) : ∀ {m : List α}, ls_2 P l m → ls_2 P (l ++ [a]) (m ++ [x]) := by
  induction l with
  | nil => intro m h1; cases m with
    | nil => exact ⟨hx, trivial⟩
    | cons b m => exact h1.elim
  | cons b l ih =>
    intro m h1
    cases m with
    | nil => exact h1.elim
    | cons c m => exact ⟨h1.1, ih h1.2⟩
/-- what goes on in a traffic, without addresses -/
abbrev Ta : Type := (Nat → Nat → Int32) × (Nat → Nat → Option Nat) × (Nat → List (Nat × Int32 × Nat)) × (Nat → List (Int32 × Int32 × List Nat)) × (Nat → Nat → Int32) × (Nat → List (Nat → Int32)) × (Nat → Nat → Nat) × (List ((Nat → Int32) × Option Nat))
def tI (A : Ta) : Nat → Nat → Int32 := A.1
def tR (A : Ta) : Nat → Nat → Option Nat := A.2.1
def tW (A : Ta) : Nat → List (Nat × Int32 × Nat) := A.2.2.1
def tK (A : Ta) : Nat → List (Int32 × Int32 × List Nat) := A.2.2.2.1
def tM (A : Ta) : Nat → Nat → Int32 := A.2.2.2.2.1
def tO (A : Ta) : Nat → List (Nat → Int32) := A.2.2.2.2.2.1
def tN (A : Ta) : Nat → Nat → Nat := A.2.2.2.2.2.2.1
def tF (A : Ta) : List ((Nat → Int32) × Option Nat) := A.2.2.2.2.2.2.2
def uI (A : Ta) (g i : Nat) (v : Int32) : Ta := (wd_up (tI A) g i v, tR A, tW A, tK A, tM A, tO A, tN A, tF A)
def uR (A : Ta) (g i : Nat) (v : Option Nat) : Ta := (tI A, wd_up (tR A) g i v, tW A, tK A, tM A, tO A, tN A, tF A)
def uW (A : Ta) (h : Nat) (v : List (Nat × Int32 × Nat)) : Ta := (tI A, tR A, fun k => if k = h then v else tW A k, tK A, tM A, tO A, tN A, tF A)
def uK (A : Ta) (h : Nat) (v : List (Int32 × Int32 × List Nat)) : Ta := (tI A, tR A, tW A, fun k => if k = h then v else tK A k, tM A, tO A, tN A, tF A)
def uM (A : Ta) (h i : Nat) (v : Int32) : Ta := (tI A, tR A, tW A, tK A, wd_up (tM A) h i v, tO A, tN A, tF A)
def uO (A : Ta) (h : Nat) (v : List (Nat → Int32)) : Ta := (tI A, tR A, tW A, tK A, tM A, fun k => if k = h then v else tO A k, tN A, tF A)
def uN (A : Ta) (g i v : Nat) : Ta := (tI A, tR A, tW A, tK A, tM A, tO A, wd_up (tN A) g i v, tF A)
def uF (A : Ta) (v : List ((Nat → Int32) × Option Nat)) : Ta := (tI A, tR A, tW A, tK A, tM A, tO A, tN A, v)
def uNf (A : Ta) (g : Nat) (f : Nat → Nat) : Ta := (tI A, tR A, tW A, tK A, tM A, tO A, fun x y => if x = g then f y else tN A x y, tF A)
def uMf (A : Ta) (g : Nat) (f : Nat → Int32) : Ta := (tI A, tR A, tW A, tK A, fun x y => if x = g then f y else tM A x y, tO A, tN A, tF A)
theorem tI_uNf (A : Ta) (g : Nat) (f : Nat → Nat) : tI (uNf A g f) = tI A := rfl
theorem tI_uMf (A : Ta) (g : Nat) (f : Nat → Int32) : tI (uMf A g f) = tI A := rfl
theorem tR_uNf (A : Ta) (g : Nat) (f : Nat → Nat) : tR (uNf A g f) = tR A := rfl
theorem tR_uMf (A : Ta) (g : Nat) (f : Nat → Int32) : tR (uMf A g f) = tR A := rfl
theorem tW_uNf (A : Ta) (g : Nat) (f : Nat → Nat) : tW (uNf A g f) = tW A := rfl
theorem tW_uMf (A : Ta) (g : Nat) (f : Nat → Int32) : tW (uMf A g f) = tW A := rfl
theorem tK_uNf (A : Ta) (g : Nat) (f : Nat → Nat) : tK (uNf A g f) = tK A := rfl
theorem tK_uMf (A : Ta) (g : Nat) (f : Nat → Int32) : tK (uMf A g f) = tK A := rfl
theorem tM_uNf (A : Ta) (g : Nat) (f : Nat → Nat) : tM (uNf A g f) = tM A := rfl
theorem tM_uMf (A : Ta) (g : Nat) (f : Nat → Int32) (x y : Nat) : tM (uMf A g f) x y = if x = g then f y else tM A x y := rfl
theorem tO_uNf (A : Ta) (g : Nat) (f : Nat → Nat) : tO (uNf A g f) = tO A := rfl
theorem tO_uMf (A : Ta) (g : Nat) (f : Nat → Int32) : tO (uMf A g f) = tO A := rfl
theorem tN_uNf (A : Ta) (g : Nat) (f : Nat → Nat) (x y : Nat) : tN (uNf A g f) x y = if x = g then f y else tN A x y := rfl
theorem tN_uMf (A : Ta) (g : Nat) (f : Nat → Int32) : tN (uMf A g f) = tN A := rfl
theorem tF_uNf (A : Ta) (g : Nat) (f : Nat → Nat) : tF (uNf A g f) = tF A := rfl
theorem tF_uMf (A : Ta) (g : Nat) (f : Nat → Int32) : tF (uMf A g f) = tF A := rfl
theorem tI_uI (A : Ta) (g i : Nat) (v : Int32) (x y : Nat) : tI (uI A g i v) x y = if x = g ∧ y = i then v else tI A x y := rfl
theorem tI_uR (A : Ta) (g i : Nat) (v : Option Nat) : tI (uR A g i v) = tI A := rfl
theorem tI_uW (A : Ta) (h : Nat) (v : List (Nat × Int32 × Nat)) : tI (uW A h v) = tI A := rfl
theorem tI_uK (A : Ta) (h : Nat) (v : List (Int32 × Int32 × List Nat)) : tI (uK A h v) = tI A := rfl
theorem tI_uM (A : Ta) (h i : Nat) (v : Int32) : tI (uM A h i v) = tI A := rfl
theorem tI_uO (A : Ta) (h : Nat) (v : List (Nat → Int32)) : tI (uO A h v) = tI A := rfl
theorem tI_uN (A : Ta) (g i v : Nat) : tI (uN A g i v) = tI A := rfl
theorem tI_uF (A : Ta) (v : List ((Nat → Int32) × Option Nat)) : tI (uF A v) = tI A := rfl
theorem tR_uI (A : Ta) (g i : Nat) (v : Int32) : tR (uI A g i v) = tR A := rfl
theorem tR_uR (A : Ta) (g i : Nat) (v : Option Nat) (x y : Nat) : tR (uR A g i v) x y = if x = g ∧ y = i then v else tR A x y := rfl
theorem tR_uW (A : Ta) (h : Nat) (v : List (Nat × Int32 × Nat)) : tR (uW A h v) = tR A := rfl
theorem tR_uK (A : Ta) (h : Nat) (v : List (Int32 × Int32 × List Nat)) : tR (uK A h v) = tR A := rfl
theorem tR_uM (A : Ta) (h i : Nat) (v : Int32) : tR (uM A h i v) = tR A := rfl
theorem tR_uO (A : Ta) (h : Nat) (v : List (Nat → Int32)) : tR (uO A h v) = tR A := rfl
theorem tR_uN (A : Ta) (g i v : Nat) : tR (uN A g i v) = tR A := rfl
theorem tR_uF (A : Ta) (v : List ((Nat → Int32) × Option Nat)) : tR (uF A v) = tR A := rfl
theorem tW_uI (A : Ta) (g i : Nat) (v : Int32) : tW (uI A g i v) = tW A := rfl
theorem tW_uR (A : Ta) (g i : Nat) (v : Option Nat) : tW (uR A g i v) = tW A := rfl
theorem tW_uW (A : Ta) (h : Nat) (v : List (Nat × Int32 × Nat)) (x : Nat) : tW (uW A h v) x = if x = h then v else tW A x := rfl
theorem tW_uK (A : Ta) (h : Nat) (v : List (Int32 × Int32 × List Nat)) : tW (uK A h v) = tW A := rfl
theorem tW_uM (A : Ta) (h i : Nat) (v : Int32) : tW (uM A h i v) = tW A := rfl
theorem tW_uO (A : Ta) (h : Nat) (v : List (Nat → Int32)) : tW (uO A h v) = tW A := rfl
theorem tW_uN (A : Ta) (g i v : Nat) : tW (uN A g i v) = tW A := rfl
theorem tW_uF (A : Ta) (v : List ((Nat → Int32) × Option Nat)) : tW (uF A v) = tW A := rfl
theorem tK_uI (A : Ta) (g i : Nat) (v : Int32) : tK (uI A g i v) = tK A := rfl
theorem tK_uR (A : Ta) (g i : Nat) (v : Option Nat) : tK (uR A g i v) = tK A := rfl
theorem tK_uW (A : Ta) (h : Nat) (v : List (Nat × Int32 × Nat)) : tK (uW A h v) = tK A := rfl
theorem tK_uK (A : Ta) (h : Nat) (v : List (Int32 × Int32 × List Nat)) (x : Nat) : tK (uK A h v) x = if x = h then v else tK A x := rfl
theorem tK_uM (A : Ta) (h i : Nat) (v : Int32) : tK (uM A h i v) = tK A := rfl
theorem tK_uO (A : Ta) (h : Nat) (v : List (Nat → Int32)) : tK (uO A h v) = tK A := rfl
theorem tK_uN (A : Ta) (g i v : Nat) : tK (uN A g i v) = tK A := rfl
theorem tK_uF (A : Ta) (v : List ((Nat → Int32) × Option Nat)) : tK (uF A v) = tK A := rfl
theorem tM_uI (A : Ta) (g i : Nat) (v : Int32) : tM (uI A g i v) = tM A := rfl
theorem tM_uR (A : Ta) (g i : Nat) (v : Option Nat) : tM (uR A g i v) = tM A := rfl
theorem tM_uW (A : Ta) (h : Nat) (v : List (Nat × Int32 × Nat)) : tM (uW A h v) = tM A := rfl
theorem tM_uK (A : Ta) (h : Nat) (v : List (Int32 × Int32 × List Nat)) : tM (uK A h v) = tM A := rfl
theorem tM_uM (A : Ta) (h i : Nat) (v : Int32) (x y : Nat) : tM (uM A h i v) x y = if x = h ∧ y = i then v else tM A x y := rfl
theorem tM_uO (A : Ta) (h : Nat) (v : List (Nat → Int32)) : tM (uO A h v) = tM A := rfl
theorem tM_uN (A : Ta) (g i v : Nat) : tM (uN A g i v) = tM A := rfl
theorem tM_uF (A : Ta) (v : List ((Nat → Int32) × Option Nat)) : tM (uF A v) = tM A := rfl
theorem tO_uI (A : Ta) (g i : Nat) (v : Int32) : tO (uI A g i v) = tO A := rfl
theorem tO_uR (A : Ta) (g i : Nat) (v : Option Nat) : tO (uR A g i v) = tO A := rfl
theorem tO_uW (A : Ta) (h : Nat) (v : List (Nat × Int32 × Nat)) : tO (uW A h v) = tO A := rfl
theorem tO_uK (A : Ta) (h : Nat) (v : List (Int32 × Int32 × List Nat)) : tO (uK A h v) = tO A := rfl
theorem tO_uM (A : Ta) (h i : Nat) (v : Int32) : tO (uM A h i v) = tO A := rfl
theorem tO_uO (A : Ta) (h : Nat) (v : List (Nat → Int32)) (x : Nat) : tO (uO A h v) x = if x = h then v else tO A x := rfl
theorem tO_uN (A : Ta) (g i v : Nat) : tO (uN A g i v) = tO A := rfl
theorem tO_uF (A : Ta) (v : List ((Nat → Int32) × Option Nat)) : tO (uF A v) = tO A := rfl
theorem tN_uI (A : Ta) (g i : Nat) (v : Int32) : tN (uI A g i v) = tN A := rfl
theorem tN_uR (A : Ta) (g i : Nat) (v : Option Nat) : tN (uR A g i v) = tN A := rfl
theorem tN_uW (A : Ta) (h : Nat) (v : List (Nat × Int32 × Nat)) : tN (uW A h v) = tN A := rfl
theorem tN_uK (A : Ta) (h : Nat) (v : List (Int32 × Int32 × List Nat)) : tN (uK A h v) = tN A := rfl
theorem tN_uM (A : Ta) (h i : Nat) (v : Int32) : tN (uM A h i v) = tN A := rfl
theorem tN_uO (A : Ta) (h : Nat) (v : List (Nat → Int32)) : tN (uO A h v) = tN A := rfl
theorem tN_uN (A : Ta) (g i v : Nat) (x y : Nat) : tN (uN A g i v) x y = if x = g ∧ y = i then v else tN A x y := rfl
theorem tN_uF (A : Ta) (v : List ((Nat → Int32) × Option Nat)) : tN (uF A v) = tN A := rfl
theorem tF_uI (A : Ta) (g i : Nat) (v : Int32) : tF (uI A g i v) = tF A := rfl
theorem tF_uR (A : Ta) (g i : Nat) (v : Option Nat) : tF (uR A g i v) = tF A := rfl
theorem tF_uW (A : Ta) (h : Nat) (v : List (Nat × Int32 × Nat)) : tF (uW A h v) = tF A := rfl
theorem tF_uK (A : Ta) (h : Nat) (v : List (Int32 × Int32 × List Nat)) : tF (uK A h v) = tF A := rfl
theorem tF_uM (A : Ta) (h i : Nat) (v : Int32) : tF (uM A h i v) = tF A := rfl
theorem tF_uO (A : Ta) (h : Nat) (v : List (Nat → Int32)) : tF (uO A h v) = tF A := rfl
theorem tF_uN (A : Ta) (g i v : Nat) : tF (uN A g i v) = tF A := rfl
theorem tF_uF (A : Ta) (v : List ((Nat → Int32) × Option Nat)) : tF (uF A v) = v := rfl
/-- where it lies: packets, how many there are, frames in the row, in hand, spare; heaps; what was counted before -/
abbrev Be : Type := (Nat → Nat) × Nat × List Nat × List Nat × List Nat × (Nat → Nat → Nat) × (Nat → Nat → Nat) × List Nat
def b_pa (b : Be) : Nat → Nat := b.1
def b_pn (b : Be) : Nat := b.2.1
def b_fl (b : Be) : List Nat := b.2.2.1
def b_fh (b : Be) : List Nat := b.2.2.2.1
def b_fs (b : Be) : List Nat := b.2.2.2.2.1
def b_kh (b : Be) : Nat → Nat → Nat := b.2.2.2.2.2.1
def b_ng (b : Be) : Nat → Nat → Nat := b.2.2.2.2.2.2.1
def b_ph (b : Be) : List Nat := b.2.2.2.2.2.2.2
def v_pa (b : Be) (x : Nat → Nat) : Be := (x, b_pn b, b_fl b, b_fh b, b_fs b, b_kh b, b_ng b, b_ph b)
def v_pn (b : Be) (x : Nat) : Be := (b_pa b, x, b_fl b, b_fh b, b_fs b, b_kh b, b_ng b, b_ph b)
def v_fl (b : Be) (x : List Nat) : Be := (b_pa b, b_pn b, x, b_fh b, b_fs b, b_kh b, b_ng b, b_ph b)
def v_fh (b : Be) (x : List Nat) : Be := (b_pa b, b_pn b, b_fl b, x, b_fs b, b_kh b, b_ng b, b_ph b)
def v_fs (b : Be) (x : List Nat) : Be := (b_pa b, b_pn b, b_fl b, b_fh b, x, b_kh b, b_ng b, b_ph b)
def v_kh (b : Be) (x : Nat → Nat → Nat) : Be := (b_pa b, b_pn b, b_fl b, b_fh b, b_fs b, x, b_ng b, b_ph b)
def v_ng (b : Be) (x : Nat → Nat → Nat) : Be := (b_pa b, b_pn b, b_fl b, b_fh b, b_fs b, b_kh b, x, b_ph b)
def v_ph (b : Be) (x : List Nat) : Be := (b_pa b, b_pn b, b_fl b, b_fh b, b_fs b, b_kh b, b_ng b, x)
theorem b_pa_v_pa (b : Be) (x : Nat → Nat) : b_pa (v_pa b x) = x := rfl
theorem b_pa_v_pn (b : Be) (x : Nat) : b_pa (v_pn b x) = b_pa b := rfl
theorem b_pa_v_fl (b : Be) (x : List Nat) : b_pa (v_fl b x) = b_pa b := rfl
theorem b_pa_v_fh (b : Be) (x : List Nat) : b_pa (v_fh b x) = b_pa b := rfl
theorem b_pa_v_fs (b : Be) (x : List Nat) : b_pa (v_fs b x) = b_pa b := rfl
theorem b_pa_v_kh (b : Be) (x : Nat → Nat → Nat) : b_pa (v_kh b x) = b_pa b := rfl
theorem b_pa_v_ng (b : Be) (x : Nat → Nat → Nat) : b_pa (v_ng b x) = b_pa b := rfl
theorem b_pa_v_ph (b : Be) (x : List Nat) : b_pa (v_ph b x) = b_pa b := rfl
theorem b_pn_v_pa (b : Be) (x : Nat → Nat) : b_pn (v_pa b x) = b_pn b := rfl
theorem b_pn_v_pn (b : Be) (x : Nat) : b_pn (v_pn b x) = x := rfl
theorem b_pn_v_fl (b : Be) (x : List Nat) : b_pn (v_fl b x) = b_pn b := rfl
theorem b_pn_v_fh (b : Be) (x : List Nat) : b_pn (v_fh b x) = b_pn b := rfl
theorem b_pn_v_fs (b : Be) (x : List Nat) : b_pn (v_fs b x) = b_pn b := rfl
theorem b_pn_v_kh (b : Be) (x : Nat → Nat → Nat) : b_pn (v_kh b x) = b_pn b := rfl
theorem b_pn_v_ng (b : Be) (x : Nat → Nat → Nat) : b_pn (v_ng b x) = b_pn b := rfl
theorem b_pn_v_ph (b : Be) (x : List Nat) : b_pn (v_ph b x) = b_pn b := rfl
theorem b_fl_v_pa (b : Be) (x : Nat → Nat) : b_fl (v_pa b x) = b_fl b := rfl
theorem b_fl_v_pn (b : Be) (x : Nat) : b_fl (v_pn b x) = b_fl b := rfl
theorem b_fl_v_fl (b : Be) (x : List Nat) : b_fl (v_fl b x) = x := rfl
theorem b_fl_v_fh (b : Be) (x : List Nat) : b_fl (v_fh b x) = b_fl b := rfl
theorem b_fl_v_fs (b : Be) (x : List Nat) : b_fl (v_fs b x) = b_fl b := rfl
theorem b_fl_v_kh (b : Be) (x : Nat → Nat → Nat) : b_fl (v_kh b x) = b_fl b := rfl
theorem b_fl_v_ng (b : Be) (x : Nat → Nat → Nat) : b_fl (v_ng b x) = b_fl b := rfl
theorem b_fl_v_ph (b : Be) (x : List Nat) : b_fl (v_ph b x) = b_fl b := rfl
theorem b_fh_v_pa (b : Be) (x : Nat → Nat) : b_fh (v_pa b x) = b_fh b := rfl
theorem b_fh_v_pn (b : Be) (x : Nat) : b_fh (v_pn b x) = b_fh b := rfl
theorem b_fh_v_fl (b : Be) (x : List Nat) : b_fh (v_fl b x) = b_fh b := rfl
theorem b_fh_v_fh (b : Be) (x : List Nat) : b_fh (v_fh b x) = x := rfl
theorem b_fh_v_fs (b : Be) (x : List Nat) : b_fh (v_fs b x) = b_fh b := rfl
theorem b_fh_v_kh (b : Be) (x : Nat → Nat → Nat) : b_fh (v_kh b x) = b_fh b := rfl
theorem b_fh_v_ng (b : Be) (x : Nat → Nat → Nat) : b_fh (v_ng b x) = b_fh b := rfl
theorem b_fh_v_ph (b : Be) (x : List Nat) : b_fh (v_ph b x) = b_fh b := rfl
theorem b_fs_v_pa (b : Be) (x : Nat → Nat) : b_fs (v_pa b x) = b_fs b := rfl
theorem b_fs_v_pn (b : Be) (x : Nat) : b_fs (v_pn b x) = b_fs b := rfl
theorem b_fs_v_fl (b : Be) (x : List Nat) : b_fs (v_fl b x) = b_fs b := rfl
theorem b_fs_v_fh (b : Be) (x : List Nat) : b_fs (v_fh b x) = b_fs b := rfl
theorem b_fs_v_fs (b : Be) (x : List Nat) : b_fs (v_fs b x) = x := rfl
theorem b_fs_v_kh (b : Be) (x : Nat → Nat → Nat) : b_fs (v_kh b x) = b_fs b := rfl
theorem b_fs_v_ng (b : Be) (x : Nat → Nat → Nat) : b_fs (v_ng b x) = b_fs b := rfl
theorem b_fs_v_ph (b : Be) (x : List Nat) : b_fs (v_ph b x) = b_fs b := rfl
theorem b_kh_v_pa (b : Be) (x : Nat → Nat) : b_kh (v_pa b x) = b_kh b := rfl
theorem b_kh_v_pn (b : Be) (x : Nat) : b_kh (v_pn b x) = b_kh b := rfl
theorem b_kh_v_fl (b : Be) (x : List Nat) : b_kh (v_fl b x) = b_kh b := rfl
theorem b_kh_v_fh (b : Be) (x : List Nat) : b_kh (v_fh b x) = b_kh b := rfl
theorem b_kh_v_fs (b : Be) (x : List Nat) : b_kh (v_fs b x) = b_kh b := rfl
theorem b_kh_v_kh (b : Be) (x : Nat → Nat → Nat) : b_kh (v_kh b x) = x := rfl
theorem b_kh_v_ng (b : Be) (x : Nat → Nat → Nat) : b_kh (v_ng b x) = b_kh b := rfl
theorem b_kh_v_ph (b : Be) (x : List Nat) : b_kh (v_ph b x) = b_kh b := rfl
theorem b_ng_v_pa (b : Be) (x : Nat → Nat) : b_ng (v_pa b x) = b_ng b := rfl
theorem b_ng_v_pn (b : Be) (x : Nat) : b_ng (v_pn b x) = b_ng b := rfl
theorem b_ng_v_fl (b : Be) (x : List Nat) : b_ng (v_fl b x) = b_ng b := rfl
theorem b_ng_v_fh (b : Be) (x : List Nat) : b_ng (v_fh b x) = b_ng b := rfl
theorem b_ng_v_fs (b : Be) (x : List Nat) : b_ng (v_fs b x) = b_ng b := rfl
theorem b_ng_v_kh (b : Be) (x : Nat → Nat → Nat) : b_ng (v_kh b x) = b_ng b := rfl
theorem b_ng_v_ng (b : Be) (x : Nat → Nat → Nat) : b_ng (v_ng b x) = x := rfl
theorem b_ng_v_ph (b : Be) (x : List Nat) : b_ng (v_ph b x) = b_ng b := rfl
theorem b_ph_v_pa (b : Be) (x : Nat → Nat) : b_ph (v_pa b x) = b_ph b := rfl
theorem b_ph_v_pn (b : Be) (x : Nat) : b_ph (v_pn b x) = b_ph b := rfl
theorem b_ph_v_fl (b : Be) (x : List Nat) : b_ph (v_fl b x) = b_ph b := rfl
theorem b_ph_v_fh (b : Be) (x : List Nat) : b_ph (v_fh b x) = b_ph b := rfl
theorem b_ph_v_fs (b : Be) (x : List Nat) : b_ph (v_fs b x) = b_ph b := rfl
theorem b_ph_v_kh (b : Be) (x : Nat → Nat → Nat) : b_ph (v_kh b x) = b_ph b := rfl
theorem b_ph_v_ng (b : Be) (x : Nat → Nat → Nat) : b_ph (v_ng b x) = b_ph b := rfl
theorem b_ph_v_ph (b : Be) (x : List Nat) : b_ph (v_ph b x) = x := rfl
