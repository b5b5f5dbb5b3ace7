/-! THE TWO WORLDS: cells, fields, what is fixed (printed by wip/whole/world11.py) -/
def stN : Nat → String := fun j => match j with
  | 0 => "LEAST_TOLD"
  | 1 => "MOST_TOLD"
  | 2 => "LASTS"
  | 3 => "BINDS"
  | _ => "UNDER"
def stV : List (List Int32) := [[0, 0, 1, 0], [60, 9999, 999, 1], [365, 9999, 5475, 9999, 1825, 1825], [0, 1, 0, 1, 1, 0], [-1, 0, 0, 1, 2, 2]]
abbrev stL (j : Nat) : Nat := (stV.getD j []).length
abbrev stT (j i : Nat) : Int32 := (stV.getD j []).getD i 0
def stK : List (Nat × String) := [(31, "pays near < 6 ; sum 10 * span + worth ;"), (103, "pays"), (109, "sum"), (111, "or"), (113, "and"), (115, "not"), (117, "day"), (119, "span"), (121, "near"), (123, "trees"), (125, "house"), (127, "worth")]
def stLen : List Nat := [39, 4, 3, 2, 3, 3, 3, 4, 4, 5, 5, 5]
def stByt : List (List Int32) := [[112, 97, 121, 115, 32, 110, 101, 97, 114, 32, 60, 32, 54, 32, 59, 32, 115, 117, 109, 32, 49, 48, 32, 42, 32, 115, 112, 97, 110, 32, 43, 32, 119, 111, 114, 116, 104, 32, 59], [112, 97, 121, 115], [115, 117, 109], [111, 114], [97, 110, 100], [110, 111, 116], [100, 97, 121], [115, 112, 97, 110], [110, 101, 97, 114], [116, 114, 101, 101, 115], [104, 111, 117, 115, 101], [119, 111, 114, 116, 104]]
def nwM : List (String × Nat × MethodName × String) := [("WayLeaves$Reader", 99, yX11_within, "WayLeaves"), ("WayLeaves$Land", 48, yX11_within, "WayLeaves"), ("WayLeaves$Line", 38, yX11_within, "WayLeaves"), ("WayLeaves$Leaves", 56, yX11_within, "WayLeaves"), ("WayLeaves$Acts", 65, yX11_within, "WayLeaves"), ("WayLeaves$Ways", 66, yX11_within, "WayLeaves"), ("WayLeaves$Asks", 63, yX11_within, "WayLeaves"), ("WayLeaves$Sheets", 33, yX11_within, "WayLeaves"), ("WayLeaves$Sheets", 44, yX11_isPlot, "WayLeaves")]
def nwF : List (String × Nat × String × String × String × String) := [("WayLeaves$Leaves", 60, "WayLeaves", "LASTS", "[I", "WayLeaves"), ("WayLeaves$Leaves", 70, "WayLeaves", "BINDS", "[I", "WayLeaves"), ("WayLeaves$Sheets", 48, "WayLeaves", "LEAST_TOLD", "[I", "WayLeaves"), ("WayLeaves$Sheets", 51, "WayLeaves", "MOST_TOLD", "[I", "WayLeaves"), ("WayLeaves$Leaves", 63, "WayLeaves", "UNDER", "[I", "WayLeaves")]
/-- what is fixed on the class's side: links to nest mates, static tables, literals -/
def xF (ts adK adV : Nat → Nat) (L : List Nat) (U : State) : Prop :=
  (∀ x ∈ nwM, va_Nw (.methodLinkNest x.1 x.2.1 x.2.2.1 x.2.2.2) U) ∧ (∀ x ∈ nwF, va_Nw (.fieldLinkNest x.1 x.2.1 x.2.2.1 x.2.2.2.1 x.2.2.2.2.1 x.2.2.2.2.2) U) ∧
  (∀ j, j < 5 → va_Z "WayLeaves" (stN j) "[I" (.ref (ts j)) (fun q => q ∈ L) U U.heap ∧ va_T .int (ts j) (stL j) (fun i => .int (stT j i)) (fun q => q ∈ L) U U.heap) ∧
  (∀ x ∈ stK.zipIdx, vk_R "WayLeaves$Reader" x.1.1 x.1.2 (adK x.2) U) ∧ vk_S 12 stLen stByt adK adV (fun q => q ∈ L) U U.heap ∧
  va_Z "java/lang/String" "COMPACT_STRINGS" "Z" (.int 1) (fun q => q ∈ L) U U.heap ∧ va_Zq "jdk/internal/util/Preconditions" "SIOOBE_FORMATTER" "Ljava/util/function/BiFunction;" (fun q => q ∈ L) U U.heap
theorem xF.warm {ts adK adV : Nat → Nat} {L : List Nat} {s U : State} (h : xF ts adK adV L s) (hq : ∀ q : Nat, q < s.heap.size → ¬ q ∈ L → U.heap[q]? = s.heap[q]?) (hW : s.WarmedH U.vm) : xF ts adK adV L U :=
  ⟨fun x hx => va_Nw.warmM hW (h.1 x hx), fun x hx => va_Nw.warmF hW (h.2.1 x hx), fun j hj => ⟨va_Z.moved hW.alike ((h.2.2.1 j hj).1.kept hq), va_T.moved hW.alike ((h.2.2.1 j hj).2.kept hq)⟩, fun x hx => vk_R.warm hW (h.2.2.2.1 x hx), vk_S.moved hW.alike (h.2.2.2.2.1.kept hq), va_Z.moved hW.alike (h.2.2.2.2.2.1.kept hq), va_Zq.moved hW.alike (h.2.2.2.2.2.2.kept hq)⟩
theorem xF.call {ts adK adV : Nat → Nat} {L : List Nat} {U : State} {g : JFrame} {mk : MethodId} {a : Array Value} (h : xF ts adK adV L U) : xF ts adK adV L (U.calling g mk a) :=
  ⟨fun x hx => va_Nw.same rfl (u := U) rfl (h.1 x hx), fun x hx => va_Nw.same rfl (u := U) rfl (h.2.1 x hx), fun j hj => ⟨va_Z.moved (Vm.Alike.refl U.vm) (h.2.2.1 j hj).1, va_T.moved (Vm.Alike.refl U.vm) (h.2.2.1 j hj).2⟩, fun x hx => vk_R.same (u := U) rfl (h.2.2.2.1 x hx), vk_S.moved (Vm.Alike.refl U.vm) h.2.2.2.2.1, va_Z.moved (Vm.Alike.refl U.vm) h.2.2.2.2.2.1, va_Zq.moved (Vm.Alike.refl U.vm) h.2.2.2.2.2.2⟩
def tyl (cs : Nat → ClassId) : List (ClassId × FieldType) := [(cs 0, .int), (cs 1, .long), (cs 2, .boolean), (cs 3, .array .int), (cs 4, .byte), (cs 5, .char)]
def xl (ad : Nat → Nat) (cs : Nat → ClassId) (σ : St) : va_W := [(ad 0, .inr (11, [.ref (ad 1), .ref (ad 2), .ref (ad 3), .ref (ad 4), .ref (ad 5), .ref (ad 6), .ref (ad 7), .ref (ad 8), .ref (ad 9), .ref (ad 10), .ref (ad 11)])),
  (ad 1, .inr (4, [.int (σ.1 0), .int (σ.1 1), .ref (ad 12), .ref (ad 13), .ref (ad 14), .ref (ad 15), .ref (ad 16), .ref (ad 21), .ref (ad 22), .ref (ad 23)])),
  (ad 2, .inr (3, [.ref (ad 24), .ref (ad 35)])),
  (ad 3, .inr (6, [.ref (ad 1), .int (σ.1 2), .int (σ.1 3), .ref (ad 36), .ref (ad 37), .ref (ad 38), .ref (ad 39), .ref (ad 40), .ref (ad 41)])),
  (ad 4, .inr (5, [.ref (ad 1), .ref (ad 3), .ref (ad 2), .int (σ.1 4), .ref (ad 42), .ref (ad 43), .ref (ad 44), .ref (ad 45), .ref (ad 46), .ref (ad 47), .ref (ad 48), .ref (ad 49), .ref (ad 50)])),
  (ad 5, .inr (8, [.ref (ad 51), .int (σ.1 5), .ref (ad 52), .ref (ad 53), .ref (ad 54), .int (σ.1 6), .int (σ.1 7), .ref (ad 55), .int (σ.1 8), .int (σ.1 9)])),
  (ad 6, .inr (0, [.ref (ad 1), .ref (ad 3), .int (σ.1 10), .int (σ.1 11), .ref (ad 56), .ref (ad 63), .ref (ad 64), .ref (ad 65), .int (σ.1 12)])),
  (ad 7, .inr (2, [.ref (ad 1), .ref (ad 4), .ref (ad 6), .ref (ad 2), .int (σ.1 13), .int (σ.1 14), .ref (ad 66), .ref (ad 67), .ref (ad 68)])),
  (ad 8, .inr (7, [.int (σ.1 15), .ref (ad 69), .ref (ad 70), .ref (ad 71)])),
  (ad 9, .inr (10, [.ref (ad 1), .ref (ad 72), .ref (ad 73)])),
  (ad 10, .inr (1, [.ref (ad 1), .ref (ad 3), .ref (ad 4), .int (σ.1 16), .ref (ad 74), .ref (ad 75), .ref (ad 76), .ref (ad 77)])),
  (ad 11, .inr (9, [.ref (ad 1), .ref (ad 78), .ref (ad 79), .ref (ad 80)])),
  (ad 12, .inl (cs 0, 40, .inl (σ.2.1 12))),
  (ad 13, .inl (cs 0, 40, .inl (σ.2.1 13))),
  (ad 14, .inl (cs 0, 40, .inl (σ.2.1 14))),
  (ad 15, .inl (cs 0, 10, .inl (σ.2.1 15))),
  (ad 16, .inl (cs 3, 4, .inr (.inr (.inr (.inr (fun i => some (ad (17 + i)))))))),
  (ad 17, .inl (cs 0, 48, .inl (σ.2.1 17))),
  (ad 18, .inl (cs 0, 48, .inl (σ.2.1 18))),
  (ad 19, .inl (cs 0, 48, .inl (σ.2.1 19))),
  (ad 20, .inl (cs 0, 48, .inl (σ.2.1 20))),
  (ad 21, .inl (cs 0, 48, .inl (σ.2.1 21))),
  (ad 22, .inl (cs 0, 48, .inl (σ.2.1 22))),
  (ad 23, .inl (cs 0, 48, .inl (σ.2.1 23))),
  (ad 24, .inl (cs 3, 10, .inr (.inr (.inr (.inr (fun i => some (ad (25 + i)))))))),
  (ad 25, .inl (cs 0, 10, .inl (σ.2.1 25))),
  (ad 26, .inl (cs 0, 10, .inl (σ.2.1 26))),
  (ad 27, .inl (cs 0, 10, .inl (σ.2.1 27))),
  (ad 28, .inl (cs 0, 10, .inl (σ.2.1 28))),
  (ad 29, .inl (cs 0, 10, .inl (σ.2.1 29))),
  (ad 30, .inl (cs 0, 10, .inl (σ.2.1 30))),
  (ad 31, .inl (cs 0, 10, .inl (σ.2.1 31))),
  (ad 32, .inl (cs 0, 10, .inl (σ.2.1 32))),
  (ad 33, .inl (cs 0, 10, .inl (σ.2.1 33))),
  (ad 34, .inl (cs 0, 10, .inl (σ.2.1 34))),
  (ad 35, .inl (cs 1, 10, .inr (.inl (σ.2.2 35)))),
  (ad 36, .inl (cs 0, 16, .inl (σ.2.1 36))),
  (ad 37, .inl (cs 0, 16, .inl (σ.2.1 37))),
  (ad 38, .inl (cs 0, 16, .inl (σ.2.1 38))),
  (ad 39, .inl (cs 0, 16, .inl (σ.2.1 39))),
  (ad 40, .inl (cs 0, 16, .inl (σ.2.1 40))),
  (ad 41, .inl (cs 0, 16, .inl (σ.2.1 41))),
  (ad 42, .inl (cs 0, 24, .inl (σ.2.1 42))),
  (ad 43, .inl (cs 0, 24, .inl (σ.2.1 43))),
  (ad 44, .inl (cs 0, 24, .inl (σ.2.1 44))),
  (ad 45, .inl (cs 0, 24, .inl (σ.2.1 45))),
  (ad 46, .inl (cs 0, 24, .inl (σ.2.1 46))),
  (ad 47, .inl (cs 0, 24, .inl (σ.2.1 47))),
  (ad 48, .inl (cs 0, 24, .inl (σ.2.1 48))),
  (ad 49, .inl (cs 2, 24, .inl (σ.2.1 49))),
  (ad 50, .inl (cs 2, 24, .inl (σ.2.1 50))),
  (ad 51, .inl (cs 0, 160, .inl (σ.2.1 51))),
  (ad 52, .inl (cs 0, 161, .inl (σ.2.1 52))),
  (ad 53, .inl (cs 0, 161, .inl (σ.2.1 53))),
  (ad 54, .inl (cs 0, 161, .inl (σ.2.1 54))),
  (ad 55, .inl (cs 0, 160, .inl (σ.2.1 55))),
  (ad 56, .inl (cs 3, 6, .inr (.inr (.inr (.inr (fun i => some (ad (57 + i)))))))),
  (ad 57, .inl (cs 0, 160, .inl (σ.2.1 57))),
  (ad 58, .inl (cs 0, 160, .inl (σ.2.1 58))),
  (ad 59, .inl (cs 0, 160, .inl (σ.2.1 59))),
  (ad 60, .inl (cs 0, 160, .inl (σ.2.1 60))),
  (ad 61, .inl (cs 0, 160, .inl (σ.2.1 61))),
  (ad 62, .inl (cs 0, 160, .inl (σ.2.1 62))),
  (ad 63, .inl (cs 0, 6, .inl (σ.2.1 63))),
  (ad 64, .inl (cs 0, 6, .inl (σ.2.1 64))),
  (ad 65, .inl (cs 0, 160, .inl (σ.2.1 65))),
  (ad 66, .inl (cs 0, 30, .inl (σ.2.1 66))),
  (ad 67, .inl (cs 0, 30, .inl (σ.2.1 67))),
  (ad 68, .inl (cs 0, 30, .inl (σ.2.1 68))),
  (ad 69, .inl (cs 0, 20, .inl (σ.2.1 69))),
  (ad 70, .inl (cs 0, 20, .inl (σ.2.1 70))),
  (ad 71, .inl (cs 0, 20, .inl (σ.2.1 71))),
  (ad 72, .inl (cs 0, 48, .inl (σ.2.1 72))),
  (ad 73, .inl (cs 0, 48, .inl (σ.2.1 73))),
  (ad 74, .inl (cs 0, 6, .inl (σ.2.1 74))),
  (ad 75, .inl (cs 0, 6, .inl (σ.2.1 75))),
  (ad 76, .inl (cs 0, 64, .inl (σ.2.1 76))),
  (ad 77, .inl (cs 0, 64, .inl (σ.2.1 77))),
  (ad 78, .inl (cs 0, 4, .inl (σ.2.1 78))),
  (ad 79, .inl (cs 0, 4, .inl (σ.2.1 79))),
  (ad 80, .inl (cs 3, 4, .inr (.inr (.inr (.inr (fun i => some (ad (81 + i)))))))),
  (ad 81, .inl (cs 0, 40, .inl (σ.2.1 81))),
  (ad 82, .inl (cs 0, 40, .inl (σ.2.1 82))),
  (ad 83, .inl (cs 0, 40, .inl (σ.2.1 83))),
  (ad 84, .inl (cs 0, 40, .inl (σ.2.1 84)))]
abbrev xad (ad : Nat → Nat) : List Nat := (List.range 85).map ad
def ml (ad : Nat → Nat) (cs : Nat → ClassId) (σ : St) : va_W := [(ad 0, .inr (12, [.int (σ.1 0), .int (σ.1 1), .ref (ad 1), .ref (ad 2), .ref (ad 3), .ref (ad 4), .ref (ad 5), .ref (ad 6), .ref (ad 7), .ref (ad 8), .ref (ad 9), .ref (ad 10), .ref (ad 11), .int (σ.1 2), .ref (ad 12), .ref (ad 13), .int (σ.1 3), .ref (ad 14), .ref (ad 15), .ref (ad 16), .ref (ad 17), .ref (ad 18), .ref (ad 19), .ref (ad 20), .ref (ad 21), .int (σ.1 4), .ref (ad 22), .ref (ad 23), .ref (ad 24), .ref (ad 25), .ref (ad 26), .ref (ad 27), .ref (ad 28), .ref (ad 29), .ref (ad 30), .ref (ad 31), .int (σ.1 5), .int (σ.1 6), .int (σ.1 7), .ref (ad 32), .ref (ad 33), .int (σ.1 8), .int (σ.1 9), .int (σ.1 10), .int (σ.1 11), .ref (ad 34), .ref (ad 35), .ref (ad 36), .int (σ.1 12), .int (σ.1 13), .int (σ.1 14), .ref (ad 37), .int (σ.1 15), .int (σ.1 16), .ref (ad 38), .int (σ.1 17), .ref (ad 39), .ref (ad 40), .ref (ad 41), .int (σ.1 18), .ref (ad 42), .ref (ad 43), .ref (ad 44), .ref (ad 45), .ref (ad 46), .ref (ad 47), .ref (ad 48), .ref (ad 49), .ref (ad 50), .ref (ad 51), .int (σ.1 19), .int (σ.1 20), .ref (ad 52), .ref (ad 53), .ref (ad 54), .ref (ad 55)])),
  (ad 1, .inl (cs 0, 40, .inl (σ.2.1 1))),
  (ad 2, .inl (cs 0, 40, .inl (σ.2.1 2))),
  (ad 3, .inl (cs 0, 40, .inl (σ.2.1 3))),
  (ad 4, .inl (cs 0, 100, .inl (σ.2.1 4))),
  (ad 5, .inl (cs 0, 48, .inl (σ.2.1 5))),
  (ad 6, .inl (cs 0, 48, .inl (σ.2.1 6))),
  (ad 7, .inl (cs 0, 48, .inl (σ.2.1 7))),
  (ad 8, .inl (cs 0, 48, .inl (σ.2.1 8))),
  (ad 9, .inl (cs 0, 48, .inl (σ.2.1 9))),
  (ad 10, .inl (cs 0, 48, .inl (σ.2.1 10))),
  (ad 11, .inl (cs 0, 48, .inl (σ.2.1 11))),
  (ad 12, .inl (cs 0, 16, .inl (σ.2.1 12))),
  (ad 13, .inl (cs 0, 16, .inl (σ.2.1 13))),
  (ad 14, .inl (cs 0, 16, .inl (σ.2.1 14))),
  (ad 15, .inl (cs 0, 16, .inl (σ.2.1 15))),
  (ad 16, .inl (cs 0, 16, .inl (σ.2.1 16))),
  (ad 17, .inl (cs 0, 16, .inl (σ.2.1 17))),
  (ad 18, .inl (cs 0, 16, .inl (σ.2.1 18))),
  (ad 19, .inl (cs 0, 16, .inl (σ.2.1 19))),
  (ad 20, .inl (cs 0, 6, .inl (σ.2.1 20))),
  (ad 21, .inl (cs 0, 6, .inl (σ.2.1 21))),
  (ad 22, .inl (cs 0, 24, .inl (σ.2.1 22))),
  (ad 23, .inl (cs 0, 24, .inl (σ.2.1 23))),
  (ad 24, .inl (cs 0, 24, .inl (σ.2.1 24))),
  (ad 25, .inl (cs 0, 24, .inl (σ.2.1 25))),
  (ad 26, .inl (cs 0, 24, .inl (σ.2.1 26))),
  (ad 27, .inl (cs 0, 24, .inl (σ.2.1 27))),
  (ad 28, .inl (cs 2, 24, .inl (σ.2.1 28))),
  (ad 29, .inl (cs 0, 24, .inl (σ.2.1 29))),
  (ad 30, .inl (cs 1, 10, .inr (.inl (σ.2.2 30)))),
  (ad 31, .inl (cs 4, 160, .inl (σ.2.1 31))),
  (ad 32, .inl (cs 0, 1920, .inl (σ.2.1 32))),
  (ad 33, .inl (cs 0, 12, .inl (σ.2.1 33))),
  (ad 34, .inl (cs 5, 41, .inl (σ.2.1 34))),
  (ad 35, .inl (cs 0, 12, .inl (σ.2.1 35))),
  (ad 36, .inl (cs 0, 170, .inl (σ.2.1 36))),
  (ad 37, .inl (cs 2, 8, .inl (σ.2.1 37))),
  (ad 38, .inl (cs 0, 170, .inl (σ.2.1 38))),
  (ad 39, .inl (cs 0, 30, .inl (σ.2.1 39))),
  (ad 40, .inl (cs 0, 30, .inl (σ.2.1 40))),
  (ad 41, .inl (cs 0, 30, .inl (σ.2.1 41))),
  (ad 42, .inl (cs 0, 20, .inl (σ.2.1 42))),
  (ad 43, .inl (cs 0, 20, .inl (σ.2.1 43))),
  (ad 44, .inl (cs 0, 20, .inl (σ.2.1 44))),
  (ad 45, .inl (cs 0, 10, .inl (σ.2.1 45))),
  (ad 46, .inl (cs 0, 48, .inl (σ.2.1 46))),
  (ad 47, .inl (cs 0, 48, .inl (σ.2.1 47))),
  (ad 48, .inl (cs 0, 6, .inl (σ.2.1 48))),
  (ad 49, .inl (cs 0, 6, .inl (σ.2.1 49))),
  (ad 50, .inl (cs 0, 6, .inl (σ.2.1 50))),
  (ad 51, .inl (cs 0, 6, .inl (σ.2.1 51))),
  (ad 52, .inl (cs 0, 4, .inl (σ.2.1 52))),
  (ad 53, .inl (cs 0, 4, .inl (σ.2.1 53))),
  (ad 54, .inl (cs 0, 160, .inl (σ.2.1 54))),
  (ad 55, .inl (cs 0, 40, .inl (σ.2.1 55)))]
abbrev mad (ad : Nat → Nat) : List Nat := (List.range 56).map ad
abbrev XWd (D : va_G) (ad : Nat → Nat) (cs : Nat → ClassId) (ts adK adV : Nat → Nat) : Wl := (D, xl ad cs, tyl cs, xF ts adK adV (xad ad), xad ad)
abbrev MWd (D : va_G) (ad : Nat → Nat) (cs : Nat → ClassId) : Wl := (D, ml ad cs, tyl cs, fun _ => True, mad ad)
theorem XWd_ok (D : va_G) (ad : Nat → Nat) (cs : Nat → ClassId) (ts adK adV : Nat → Nat) : Wok (XWd D ad cs ts adK adV) := ⟨fun s U h hq hW => xF.warm h hq hW, fun U g mk a h => xF.call h⟩
theorem MWd_ok (D : va_G) (ad : Nat → Nat) (cs : Nat → ClassId) : Wok (MWd D ad cs) := ⟨fun s U h hq hW => trivial, fun U g mk a h => trivial⟩
theorem wi_X0 : ∀ x ∈ u_ws RX0 TX0 9, x ∈ BG := by
  intro x hx
  obtain ⟨k, hk, rfl⟩ := List.mem_map.mp hx
  have hk := List.mem_range.mp hk
  exact BG_tb (i := ([257, 259, 261, 263, 265, 267, 269, 271, 273] : List Nat).getD k 0) (by revert k; decide +kernel) (by revert k; decide +kernel)
theorem wi_X1 : ∀ x ∈ u_ws RX1 TX1 8, x ∈ BG := by
  intro x hx
  obtain ⟨k, hk, rfl⟩ := List.mem_map.mp hx
  have hk := List.mem_range.mp hk
  exact BG_tb (i := ([362, 364, 366, 368, 370, 372, 374, 376] : List Nat).getD k 0) (by revert k; decide +kernel) (by revert k; decide +kernel)
theorem wi_X2 : ∀ x ∈ u_ws RX2 TX2 9, x ∈ BG := by
  intro x hx
  obtain ⟨k, hk, rfl⟩ := List.mem_map.mp hx
  have hk := List.mem_range.mp hk
  exact BG_tb (i := ([293, 295, 297, 299, 301, 303, 305, 307, 309] : List Nat).getD k 0) (by revert k; decide +kernel) (by revert k; decide +kernel)
theorem wi_X3 : ∀ x ∈ u_ws RX3 TX3 2, x ∈ BG := by
  intro x hx
  obtain ⟨k, hk, rfl⟩ := List.mem_map.mp hx
  have hk := List.mem_range.mp hk
  exact BG_tb (i := ([94, 96] : List Nat).getD k 0) (by revert k; decide +kernel) (by revert k; decide +kernel)
theorem wi_X4 : ∀ x ∈ u_ws RX4 TX4 10, x ∈ BG := by
  intro x hx
  obtain ⟨k, hk, rfl⟩ := List.mem_map.mp hx
  have hk := List.mem_range.mp hk
  exact BG_tb (i := ([63, 65, 67, 69, 71, 73, 75, 77, 79, 81] : List Nat).getD k 0) (by revert k; decide +kernel) (by revert k; decide +kernel)
theorem wi_X5 : ∀ x ∈ u_ws RX5 TX5 13, x ∈ BG := by
  intro x hx
  obtain ⟨k, hk, rfl⟩ := List.mem_map.mp hx
  have hk := List.mem_range.mp hk
  exact BG_tb (i := ([170, 172, 174, 176, 178, 180, 182, 184, 186, 188, 190, 192, 194] : List Nat).getD k 0) (by revert k; decide +kernel) (by revert k; decide +kernel)
theorem wi_X6 : ∀ x ∈ u_ws RX6 TX6 9, x ∈ BG := by
  intro x hx
  obtain ⟨k, hk, rfl⟩ := List.mem_map.mp hx
  have hk := List.mem_range.mp hk
  exact BG_tb (i := ([125, 127, 129, 131, 133, 135, 137, 139, 141] : List Nat).getD k 0) (by revert k; decide +kernel) (by revert k; decide +kernel)
theorem wi_X7 : ∀ x ∈ u_ws RX7 TX7 4, x ∈ BG := by
  intro x hx
  obtain ⟨k, hk, rfl⟩ := List.mem_map.mp hx
  have hk := List.mem_range.mp hk
  exact BG_tb (i := ([323, 325, 327, 329] : List Nat).getD k 0) (by revert k; decide +kernel) (by revert k; decide +kernel)
theorem wi_X8 : ∀ x ∈ u_ws RX8 TX8 10, x ∈ BG := by
  intro x hx
  obtain ⟨k, hk, rfl⟩ := List.mem_map.mp hx
  have hk := List.mem_range.mp hk
  exact BG_tb (i := ([218, 220, 222, 224, 226, 228, 230, 232, 234, 236] : List Nat).getD k 0) (by revert k; decide +kernel) (by revert k; decide +kernel)
theorem wi_X9 : ∀ x ∈ u_ws RX9 TX9 4, x ∈ BG := by
  intro x hx
  obtain ⟨k, hk, rfl⟩ := List.mem_map.mp hx
  have hk := List.mem_range.mp hk
  exact BG_tb (i := ([394, 396, 398, 400] : List Nat).getD k 0) (by revert k; decide +kernel) (by revert k; decide +kernel)
theorem wi_X10 : ∀ x ∈ u_ws RX10 TX10 3, x ∈ BG := by
  intro x hx
  obtain ⟨k, hk, rfl⟩ := List.mem_map.mp hx
  have hk := List.mem_range.mp hk
  exact BG_tb (i := ([341, 343, 345] : List Nat).getD k 0) (by revert k; decide +kernel) (by revert k; decide +kernel)
theorem wi_X11 : ∀ x ∈ u_ws RX11 TX11 11, x ∈ BG := by
  intro x hx
  obtain ⟨k, hk, rfl⟩ := List.mem_map.mp hx
  have hk := List.mem_range.mp hk
  exact BG_tb (i := ([568, 570, 572, 574, 576, 578, 580, 582, 584, 586, 588] : List Nat).getD k 0) (by revert k; decide +kernel) (by revert k; decide +kernel)
theorem wi_X12 : ∀ x ∈ u_ws RX12 TX12 76, x ∈ BG := by
  intro x hx
  obtain ⟨k, hk, rfl⟩ := List.mem_map.mp hx
  have hk := List.mem_range.mp hk
  exact BG_tb (i := ([1430, 1432, 1434, 1436, 1438, 1440, 1442, 1444, 1446, 1448, 1450, 1452, 1454, 1456, 1458, 1460, 1462, 1464, 1466, 1468, 1470, 1472, 1474, 1476, 1478, 1480, 1482, 1484, 1486, 1488, 1490, 1492, 1494, 1496, 1498, 1500, 1502, 1504, 1506, 1508, 1510, 1512, 1514, 1516, 1518, 1520, 1522, 1524, 1526, 1528, 1530, 1532, 1534, 1536, 1538, 1540, 1542, 1544, 1546, 1548, 1550, 1552, 1554, 1556, 1558, 1560, 1562, 1564, 1566, 1568, 1570, 1572, 1574, 1576, 1578, 1580] : List Nat).getD k 0) (by revert k; decide +kernel) (by revert k; decide +kernel)
theorem xe_0 {ad : Nat → Nat} {cs : Nat → ClassId} {σ : St} : (xl ad cs σ)[0]? = some (ad 0, .inr (11, [.ref (ad 1), .ref (ad 2), .ref (ad 3), .ref (ad 4), .ref (ad 5), .ref (ad 6), .ref (ad 7), .ref (ad 8), .ref (ad 9), .ref (ad 10), .ref (ad 11)])) := rfl
theorem xe_1 {ad : Nat → Nat} {cs : Nat → ClassId} {σ : St} : (xl ad cs σ)[1]? = some (ad 1, .inr (4, [.int (σ.1 0), .int (σ.1 1), .ref (ad 12), .ref (ad 13), .ref (ad 14), .ref (ad 15), .ref (ad 16), .ref (ad 21), .ref (ad 22), .ref (ad 23)])) := rfl
theorem xe_2 {ad : Nat → Nat} {cs : Nat → ClassId} {σ : St} : (xl ad cs σ)[2]? = some (ad 2, .inr (3, [.ref (ad 24), .ref (ad 35)])) := rfl
theorem xe_3 {ad : Nat → Nat} {cs : Nat → ClassId} {σ : St} : (xl ad cs σ)[3]? = some (ad 3, .inr (6, [.ref (ad 1), .int (σ.1 2), .int (σ.1 3), .ref (ad 36), .ref (ad 37), .ref (ad 38), .ref (ad 39), .ref (ad 40), .ref (ad 41)])) := rfl
theorem xe_4 {ad : Nat → Nat} {cs : Nat → ClassId} {σ : St} : (xl ad cs σ)[4]? = some (ad 4, .inr (5, [.ref (ad 1), .ref (ad 3), .ref (ad 2), .int (σ.1 4), .ref (ad 42), .ref (ad 43), .ref (ad 44), .ref (ad 45), .ref (ad 46), .ref (ad 47), .ref (ad 48), .ref (ad 49), .ref (ad 50)])) := rfl
theorem xe_5 {ad : Nat → Nat} {cs : Nat → ClassId} {σ : St} : (xl ad cs σ)[5]? = some (ad 5, .inr (8, [.ref (ad 51), .int (σ.1 5), .ref (ad 52), .ref (ad 53), .ref (ad 54), .int (σ.1 6), .int (σ.1 7), .ref (ad 55), .int (σ.1 8), .int (σ.1 9)])) := rfl
theorem xe_6 {ad : Nat → Nat} {cs : Nat → ClassId} {σ : St} : (xl ad cs σ)[6]? = some (ad 6, .inr (0, [.ref (ad 1), .ref (ad 3), .int (σ.1 10), .int (σ.1 11), .ref (ad 56), .ref (ad 63), .ref (ad 64), .ref (ad 65), .int (σ.1 12)])) := rfl
theorem xe_7 {ad : Nat → Nat} {cs : Nat → ClassId} {σ : St} : (xl ad cs σ)[7]? = some (ad 7, .inr (2, [.ref (ad 1), .ref (ad 4), .ref (ad 6), .ref (ad 2), .int (σ.1 13), .int (σ.1 14), .ref (ad 66), .ref (ad 67), .ref (ad 68)])) := rfl
theorem xe_8 {ad : Nat → Nat} {cs : Nat → ClassId} {σ : St} : (xl ad cs σ)[8]? = some (ad 8, .inr (7, [.int (σ.1 15), .ref (ad 69), .ref (ad 70), .ref (ad 71)])) := rfl
theorem xe_9 {ad : Nat → Nat} {cs : Nat → ClassId} {σ : St} : (xl ad cs σ)[9]? = some (ad 9, .inr (10, [.ref (ad 1), .ref (ad 72), .ref (ad 73)])) := rfl
theorem xe_10 {ad : Nat → Nat} {cs : Nat → ClassId} {σ : St} : (xl ad cs σ)[10]? = some (ad 10, .inr (1, [.ref (ad 1), .ref (ad 3), .ref (ad 4), .int (σ.1 16), .ref (ad 74), .ref (ad 75), .ref (ad 76), .ref (ad 77)])) := rfl
theorem xe_11 {ad : Nat → Nat} {cs : Nat → ClassId} {σ : St} : (xl ad cs σ)[11]? = some (ad 11, .inr (9, [.ref (ad 1), .ref (ad 78), .ref (ad 79), .ref (ad 80)])) := rfl
theorem xe_12 {ad : Nat → Nat} {cs : Nat → ClassId} {σ : St} : (xl ad cs σ)[12]? = some (ad 12, .inl (cs 0, 40, .inl (σ.2.1 12))) := rfl
theorem xs_12 {ad : Nat → Nat} {cs : Nat → ClassId} {σ : St} (f : Nat → Int32) : (xl ad cs σ).set 12 (ad 12, .inl (cs 0, 40, .inl f)) = xl ad cs (sA σ 12 f) := rfl
theorem xe_13 {ad : Nat → Nat} {cs : Nat → ClassId} {σ : St} : (xl ad cs σ)[13]? = some (ad 13, .inl (cs 0, 40, .inl (σ.2.1 13))) := rfl
theorem xs_13 {ad : Nat → Nat} {cs : Nat → ClassId} {σ : St} (f : Nat → Int32) : (xl ad cs σ).set 13 (ad 13, .inl (cs 0, 40, .inl f)) = xl ad cs (sA σ 13 f) := rfl
theorem xe_14 {ad : Nat → Nat} {cs : Nat → ClassId} {σ : St} : (xl ad cs σ)[14]? = some (ad 14, .inl (cs 0, 40, .inl (σ.2.1 14))) := rfl
theorem xs_14 {ad : Nat → Nat} {cs : Nat → ClassId} {σ : St} (f : Nat → Int32) : (xl ad cs σ).set 14 (ad 14, .inl (cs 0, 40, .inl f)) = xl ad cs (sA σ 14 f) := rfl
theorem xe_15 {ad : Nat → Nat} {cs : Nat → ClassId} {σ : St} : (xl ad cs σ)[15]? = some (ad 15, .inl (cs 0, 10, .inl (σ.2.1 15))) := rfl
theorem xs_15 {ad : Nat → Nat} {cs : Nat → ClassId} {σ : St} (f : Nat → Int32) : (xl ad cs σ).set 15 (ad 15, .inl (cs 0, 10, .inl f)) = xl ad cs (sA σ 15 f) := rfl
theorem xe_16 {ad : Nat → Nat} {cs : Nat → ClassId} {σ : St} : (xl ad cs σ)[16]? = some (ad 16, .inl (cs 3, 4, .inr (.inr (.inr (.inr (fun i => some (ad (17 + i)))))))) := rfl
theorem xe_17 {ad : Nat → Nat} {cs : Nat → ClassId} {σ : St} : (xl ad cs σ)[17]? = some (ad 17, .inl (cs 0, 48, .inl (σ.2.1 17))) := rfl
theorem xs_17 {ad : Nat → Nat} {cs : Nat → ClassId} {σ : St} (f : Nat → Int32) : (xl ad cs σ).set 17 (ad 17, .inl (cs 0, 48, .inl f)) = xl ad cs (sA σ 17 f) := rfl
theorem xe_18 {ad : Nat → Nat} {cs : Nat → ClassId} {σ : St} : (xl ad cs σ)[18]? = some (ad 18, .inl (cs 0, 48, .inl (σ.2.1 18))) := rfl
theorem xs_18 {ad : Nat → Nat} {cs : Nat → ClassId} {σ : St} (f : Nat → Int32) : (xl ad cs σ).set 18 (ad 18, .inl (cs 0, 48, .inl f)) = xl ad cs (sA σ 18 f) := rfl
theorem xe_19 {ad : Nat → Nat} {cs : Nat → ClassId} {σ : St} : (xl ad cs σ)[19]? = some (ad 19, .inl (cs 0, 48, .inl (σ.2.1 19))) := rfl
theorem xs_19 {ad : Nat → Nat} {cs : Nat → ClassId} {σ : St} (f : Nat → Int32) : (xl ad cs σ).set 19 (ad 19, .inl (cs 0, 48, .inl f)) = xl ad cs (sA σ 19 f) := rfl
theorem xe_20 {ad : Nat → Nat} {cs : Nat → ClassId} {σ : St} : (xl ad cs σ)[20]? = some (ad 20, .inl (cs 0, 48, .inl (σ.2.1 20))) := rfl
theorem xs_20 {ad : Nat → Nat} {cs : Nat → ClassId} {σ : St} (f : Nat → Int32) : (xl ad cs σ).set 20 (ad 20, .inl (cs 0, 48, .inl f)) = xl ad cs (sA σ 20 f) := rfl
theorem xe_21 {ad : Nat → Nat} {cs : Nat → ClassId} {σ : St} : (xl ad cs σ)[21]? = some (ad 21, .inl (cs 0, 48, .inl (σ.2.1 21))) := rfl
theorem xs_21 {ad : Nat → Nat} {cs : Nat → ClassId} {σ : St} (f : Nat → Int32) : (xl ad cs σ).set 21 (ad 21, .inl (cs 0, 48, .inl f)) = xl ad cs (sA σ 21 f) := rfl
theorem xe_22 {ad : Nat → Nat} {cs : Nat → ClassId} {σ : St} : (xl ad cs σ)[22]? = some (ad 22, .inl (cs 0, 48, .inl (σ.2.1 22))) := rfl
theorem xs_22 {ad : Nat → Nat} {cs : Nat → ClassId} {σ : St} (f : Nat → Int32) : (xl ad cs σ).set 22 (ad 22, .inl (cs 0, 48, .inl f)) = xl ad cs (sA σ 22 f) := rfl
theorem xe_23 {ad : Nat → Nat} {cs : Nat → ClassId} {σ : St} : (xl ad cs σ)[23]? = some (ad 23, .inl (cs 0, 48, .inl (σ.2.1 23))) := rfl
theorem xs_23 {ad : Nat → Nat} {cs : Nat → ClassId} {σ : St} (f : Nat → Int32) : (xl ad cs σ).set 23 (ad 23, .inl (cs 0, 48, .inl f)) = xl ad cs (sA σ 23 f) := rfl
theorem xe_24 {ad : Nat → Nat} {cs : Nat → ClassId} {σ : St} : (xl ad cs σ)[24]? = some (ad 24, .inl (cs 3, 10, .inr (.inr (.inr (.inr (fun i => some (ad (25 + i)))))))) := rfl
theorem xe_25 {ad : Nat → Nat} {cs : Nat → ClassId} {σ : St} : (xl ad cs σ)[25]? = some (ad 25, .inl (cs 0, 10, .inl (σ.2.1 25))) := rfl
theorem xs_25 {ad : Nat → Nat} {cs : Nat → ClassId} {σ : St} (f : Nat → Int32) : (xl ad cs σ).set 25 (ad 25, .inl (cs 0, 10, .inl f)) = xl ad cs (sA σ 25 f) := rfl
theorem xe_26 {ad : Nat → Nat} {cs : Nat → ClassId} {σ : St} : (xl ad cs σ)[26]? = some (ad 26, .inl (cs 0, 10, .inl (σ.2.1 26))) := rfl
theorem xs_26 {ad : Nat → Nat} {cs : Nat → ClassId} {σ : St} (f : Nat → Int32) : (xl ad cs σ).set 26 (ad 26, .inl (cs 0, 10, .inl f)) = xl ad cs (sA σ 26 f) := rfl
theorem xe_27 {ad : Nat → Nat} {cs : Nat → ClassId} {σ : St} : (xl ad cs σ)[27]? = some (ad 27, .inl (cs 0, 10, .inl (σ.2.1 27))) := rfl
theorem xs_27 {ad : Nat → Nat} {cs : Nat → ClassId} {σ : St} (f : Nat → Int32) : (xl ad cs σ).set 27 (ad 27, .inl (cs 0, 10, .inl f)) = xl ad cs (sA σ 27 f) := rfl
theorem xe_28 {ad : Nat → Nat} {cs : Nat → ClassId} {σ : St} : (xl ad cs σ)[28]? = some (ad 28, .inl (cs 0, 10, .inl (σ.2.1 28))) := rfl
theorem xs_28 {ad : Nat → Nat} {cs : Nat → ClassId} {σ : St} (f : Nat → Int32) : (xl ad cs σ).set 28 (ad 28, .inl (cs 0, 10, .inl f)) = xl ad cs (sA σ 28 f) := rfl
theorem xe_29 {ad : Nat → Nat} {cs : Nat → ClassId} {σ : St} : (xl ad cs σ)[29]? = some (ad 29, .inl (cs 0, 10, .inl (σ.2.1 29))) := rfl
theorem xs_29 {ad : Nat → Nat} {cs : Nat → ClassId} {σ : St} (f : Nat → Int32) : (xl ad cs σ).set 29 (ad 29, .inl (cs 0, 10, .inl f)) = xl ad cs (sA σ 29 f) := rfl
theorem xe_30 {ad : Nat → Nat} {cs : Nat → ClassId} {σ : St} : (xl ad cs σ)[30]? = some (ad 30, .inl (cs 0, 10, .inl (σ.2.1 30))) := rfl
theorem xs_30 {ad : Nat → Nat} {cs : Nat → ClassId} {σ : St} (f : Nat → Int32) : (xl ad cs σ).set 30 (ad 30, .inl (cs 0, 10, .inl f)) = xl ad cs (sA σ 30 f) := rfl
theorem xe_31 {ad : Nat → Nat} {cs : Nat → ClassId} {σ : St} : (xl ad cs σ)[31]? = some (ad 31, .inl (cs 0, 10, .inl (σ.2.1 31))) := rfl
theorem xs_31 {ad : Nat → Nat} {cs : Nat → ClassId} {σ : St} (f : Nat → Int32) : (xl ad cs σ).set 31 (ad 31, .inl (cs 0, 10, .inl f)) = xl ad cs (sA σ 31 f) := rfl
theorem xe_32 {ad : Nat → Nat} {cs : Nat → ClassId} {σ : St} : (xl ad cs σ)[32]? = some (ad 32, .inl (cs 0, 10, .inl (σ.2.1 32))) := rfl
theorem xs_32 {ad : Nat → Nat} {cs : Nat → ClassId} {σ : St} (f : Nat → Int32) : (xl ad cs σ).set 32 (ad 32, .inl (cs 0, 10, .inl f)) = xl ad cs (sA σ 32 f) := rfl
theorem xe_33 {ad : Nat → Nat} {cs : Nat → ClassId} {σ : St} : (xl ad cs σ)[33]? = some (ad 33, .inl (cs 0, 10, .inl (σ.2.1 33))) := rfl
theorem xs_33 {ad : Nat → Nat} {cs : Nat → ClassId} {σ : St} (f : Nat → Int32) : (xl ad cs σ).set 33 (ad 33, .inl (cs 0, 10, .inl f)) = xl ad cs (sA σ 33 f) := rfl
theorem xe_34 {ad : Nat → Nat} {cs : Nat → ClassId} {σ : St} : (xl ad cs σ)[34]? = some (ad 34, .inl (cs 0, 10, .inl (σ.2.1 34))) := rfl
theorem xs_34 {ad : Nat → Nat} {cs : Nat → ClassId} {σ : St} (f : Nat → Int32) : (xl ad cs σ).set 34 (ad 34, .inl (cs 0, 10, .inl f)) = xl ad cs (sA σ 34 f) := rfl
theorem xe_35 {ad : Nat → Nat} {cs : Nat → ClassId} {σ : St} : (xl ad cs σ)[35]? = some (ad 35, .inl (cs 1, 10, .inr (.inl (σ.2.2 35)))) := rfl
theorem xs_35 {ad : Nat → Nat} {cs : Nat → ClassId} {σ : St} (f : Nat → Int64) : (xl ad cs σ).set 35 (ad 35, .inl (cs 1, 10, .inr (.inl f))) = xl ad cs (sJ σ 35 f) := rfl
theorem xe_36 {ad : Nat → Nat} {cs : Nat → ClassId} {σ : St} : (xl ad cs σ)[36]? = some (ad 36, .inl (cs 0, 16, .inl (σ.2.1 36))) := rfl
theorem xs_36 {ad : Nat → Nat} {cs : Nat → ClassId} {σ : St} (f : Nat → Int32) : (xl ad cs σ).set 36 (ad 36, .inl (cs 0, 16, .inl f)) = xl ad cs (sA σ 36 f) := rfl
theorem xe_37 {ad : Nat → Nat} {cs : Nat → ClassId} {σ : St} : (xl ad cs σ)[37]? = some (ad 37, .inl (cs 0, 16, .inl (σ.2.1 37))) := rfl
theorem xs_37 {ad : Nat → Nat} {cs : Nat → ClassId} {σ : St} (f : Nat → Int32) : (xl ad cs σ).set 37 (ad 37, .inl (cs 0, 16, .inl f)) = xl ad cs (sA σ 37 f) := rfl
theorem xe_38 {ad : Nat → Nat} {cs : Nat → ClassId} {σ : St} : (xl ad cs σ)[38]? = some (ad 38, .inl (cs 0, 16, .inl (σ.2.1 38))) := rfl
theorem xs_38 {ad : Nat → Nat} {cs : Nat → ClassId} {σ : St} (f : Nat → Int32) : (xl ad cs σ).set 38 (ad 38, .inl (cs 0, 16, .inl f)) = xl ad cs (sA σ 38 f) := rfl
theorem xe_39 {ad : Nat → Nat} {cs : Nat → ClassId} {σ : St} : (xl ad cs σ)[39]? = some (ad 39, .inl (cs 0, 16, .inl (σ.2.1 39))) := rfl
theorem xs_39 {ad : Nat → Nat} {cs : Nat → ClassId} {σ : St} (f : Nat → Int32) : (xl ad cs σ).set 39 (ad 39, .inl (cs 0, 16, .inl f)) = xl ad cs (sA σ 39 f) := rfl
theorem xe_40 {ad : Nat → Nat} {cs : Nat → ClassId} {σ : St} : (xl ad cs σ)[40]? = some (ad 40, .inl (cs 0, 16, .inl (σ.2.1 40))) := rfl
theorem xs_40 {ad : Nat → Nat} {cs : Nat → ClassId} {σ : St} (f : Nat → Int32) : (xl ad cs σ).set 40 (ad 40, .inl (cs 0, 16, .inl f)) = xl ad cs (sA σ 40 f) := rfl
theorem xe_41 {ad : Nat → Nat} {cs : Nat → ClassId} {σ : St} : (xl ad cs σ)[41]? = some (ad 41, .inl (cs 0, 16, .inl (σ.2.1 41))) := rfl
theorem xs_41 {ad : Nat → Nat} {cs : Nat → ClassId} {σ : St} (f : Nat → Int32) : (xl ad cs σ).set 41 (ad 41, .inl (cs 0, 16, .inl f)) = xl ad cs (sA σ 41 f) := rfl
theorem xe_42 {ad : Nat → Nat} {cs : Nat → ClassId} {σ : St} : (xl ad cs σ)[42]? = some (ad 42, .inl (cs 0, 24, .inl (σ.2.1 42))) := rfl
theorem xs_42 {ad : Nat → Nat} {cs : Nat → ClassId} {σ : St} (f : Nat → Int32) : (xl ad cs σ).set 42 (ad 42, .inl (cs 0, 24, .inl f)) = xl ad cs (sA σ 42 f) := rfl
theorem xe_43 {ad : Nat → Nat} {cs : Nat → ClassId} {σ : St} : (xl ad cs σ)[43]? = some (ad 43, .inl (cs 0, 24, .inl (σ.2.1 43))) := rfl
theorem xs_43 {ad : Nat → Nat} {cs : Nat → ClassId} {σ : St} (f : Nat → Int32) : (xl ad cs σ).set 43 (ad 43, .inl (cs 0, 24, .inl f)) = xl ad cs (sA σ 43 f) := rfl
theorem xe_44 {ad : Nat → Nat} {cs : Nat → ClassId} {σ : St} : (xl ad cs σ)[44]? = some (ad 44, .inl (cs 0, 24, .inl (σ.2.1 44))) := rfl
theorem xs_44 {ad : Nat → Nat} {cs : Nat → ClassId} {σ : St} (f : Nat → Int32) : (xl ad cs σ).set 44 (ad 44, .inl (cs 0, 24, .inl f)) = xl ad cs (sA σ 44 f) := rfl
theorem xe_45 {ad : Nat → Nat} {cs : Nat → ClassId} {σ : St} : (xl ad cs σ)[45]? = some (ad 45, .inl (cs 0, 24, .inl (σ.2.1 45))) := rfl
theorem xs_45 {ad : Nat → Nat} {cs : Nat → ClassId} {σ : St} (f : Nat → Int32) : (xl ad cs σ).set 45 (ad 45, .inl (cs 0, 24, .inl f)) = xl ad cs (sA σ 45 f) := rfl
theorem xe_46 {ad : Nat → Nat} {cs : Nat → ClassId} {σ : St} : (xl ad cs σ)[46]? = some (ad 46, .inl (cs 0, 24, .inl (σ.2.1 46))) := rfl
theorem xs_46 {ad : Nat → Nat} {cs : Nat → ClassId} {σ : St} (f : Nat → Int32) : (xl ad cs σ).set 46 (ad 46, .inl (cs 0, 24, .inl f)) = xl ad cs (sA σ 46 f) := rfl
theorem xe_47 {ad : Nat → Nat} {cs : Nat → ClassId} {σ : St} : (xl ad cs σ)[47]? = some (ad 47, .inl (cs 0, 24, .inl (σ.2.1 47))) := rfl
theorem xs_47 {ad : Nat → Nat} {cs : Nat → ClassId} {σ : St} (f : Nat → Int32) : (xl ad cs σ).set 47 (ad 47, .inl (cs 0, 24, .inl f)) = xl ad cs (sA σ 47 f) := rfl
theorem xe_48 {ad : Nat → Nat} {cs : Nat → ClassId} {σ : St} : (xl ad cs σ)[48]? = some (ad 48, .inl (cs 0, 24, .inl (σ.2.1 48))) := rfl
theorem xs_48 {ad : Nat → Nat} {cs : Nat → ClassId} {σ : St} (f : Nat → Int32) : (xl ad cs σ).set 48 (ad 48, .inl (cs 0, 24, .inl f)) = xl ad cs (sA σ 48 f) := rfl
theorem xe_49 {ad : Nat → Nat} {cs : Nat → ClassId} {σ : St} : (xl ad cs σ)[49]? = some (ad 49, .inl (cs 2, 24, .inl (σ.2.1 49))) := rfl
theorem xs_49 {ad : Nat → Nat} {cs : Nat → ClassId} {σ : St} (f : Nat → Int32) : (xl ad cs σ).set 49 (ad 49, .inl (cs 2, 24, .inl f)) = xl ad cs (sA σ 49 f) := rfl
theorem xe_50 {ad : Nat → Nat} {cs : Nat → ClassId} {σ : St} : (xl ad cs σ)[50]? = some (ad 50, .inl (cs 2, 24, .inl (σ.2.1 50))) := rfl
theorem xs_50 {ad : Nat → Nat} {cs : Nat → ClassId} {σ : St} (f : Nat → Int32) : (xl ad cs σ).set 50 (ad 50, .inl (cs 2, 24, .inl f)) = xl ad cs (sA σ 50 f) := rfl
theorem xe_51 {ad : Nat → Nat} {cs : Nat → ClassId} {σ : St} : (xl ad cs σ)[51]? = some (ad 51, .inl (cs 0, 160, .inl (σ.2.1 51))) := rfl
theorem xs_51 {ad : Nat → Nat} {cs : Nat → ClassId} {σ : St} (f : Nat → Int32) : (xl ad cs σ).set 51 (ad 51, .inl (cs 0, 160, .inl f)) = xl ad cs (sA σ 51 f) := rfl
theorem xe_52 {ad : Nat → Nat} {cs : Nat → ClassId} {σ : St} : (xl ad cs σ)[52]? = some (ad 52, .inl (cs 0, 161, .inl (σ.2.1 52))) := rfl
theorem xs_52 {ad : Nat → Nat} {cs : Nat → ClassId} {σ : St} (f : Nat → Int32) : (xl ad cs σ).set 52 (ad 52, .inl (cs 0, 161, .inl f)) = xl ad cs (sA σ 52 f) := rfl
theorem xe_53 {ad : Nat → Nat} {cs : Nat → ClassId} {σ : St} : (xl ad cs σ)[53]? = some (ad 53, .inl (cs 0, 161, .inl (σ.2.1 53))) := rfl
theorem xs_53 {ad : Nat → Nat} {cs : Nat → ClassId} {σ : St} (f : Nat → Int32) : (xl ad cs σ).set 53 (ad 53, .inl (cs 0, 161, .inl f)) = xl ad cs (sA σ 53 f) := rfl
theorem xe_54 {ad : Nat → Nat} {cs : Nat → ClassId} {σ : St} : (xl ad cs σ)[54]? = some (ad 54, .inl (cs 0, 161, .inl (σ.2.1 54))) := rfl
theorem xs_54 {ad : Nat → Nat} {cs : Nat → ClassId} {σ : St} (f : Nat → Int32) : (xl ad cs σ).set 54 (ad 54, .inl (cs 0, 161, .inl f)) = xl ad cs (sA σ 54 f) := rfl
theorem xe_55 {ad : Nat → Nat} {cs : Nat → ClassId} {σ : St} : (xl ad cs σ)[55]? = some (ad 55, .inl (cs 0, 160, .inl (σ.2.1 55))) := rfl
theorem xs_55 {ad : Nat → Nat} {cs : Nat → ClassId} {σ : St} (f : Nat → Int32) : (xl ad cs σ).set 55 (ad 55, .inl (cs 0, 160, .inl f)) = xl ad cs (sA σ 55 f) := rfl
theorem xe_56 {ad : Nat → Nat} {cs : Nat → ClassId} {σ : St} : (xl ad cs σ)[56]? = some (ad 56, .inl (cs 3, 6, .inr (.inr (.inr (.inr (fun i => some (ad (57 + i)))))))) := rfl
theorem xe_57 {ad : Nat → Nat} {cs : Nat → ClassId} {σ : St} : (xl ad cs σ)[57]? = some (ad 57, .inl (cs 0, 160, .inl (σ.2.1 57))) := rfl
theorem xs_57 {ad : Nat → Nat} {cs : Nat → ClassId} {σ : St} (f : Nat → Int32) : (xl ad cs σ).set 57 (ad 57, .inl (cs 0, 160, .inl f)) = xl ad cs (sA σ 57 f) := rfl
theorem xe_58 {ad : Nat → Nat} {cs : Nat → ClassId} {σ : St} : (xl ad cs σ)[58]? = some (ad 58, .inl (cs 0, 160, .inl (σ.2.1 58))) := rfl
theorem xs_58 {ad : Nat → Nat} {cs : Nat → ClassId} {σ : St} (f : Nat → Int32) : (xl ad cs σ).set 58 (ad 58, .inl (cs 0, 160, .inl f)) = xl ad cs (sA σ 58 f) := rfl
theorem xe_59 {ad : Nat → Nat} {cs : Nat → ClassId} {σ : St} : (xl ad cs σ)[59]? = some (ad 59, .inl (cs 0, 160, .inl (σ.2.1 59))) := rfl
theorem xs_59 {ad : Nat → Nat} {cs : Nat → ClassId} {σ : St} (f : Nat → Int32) : (xl ad cs σ).set 59 (ad 59, .inl (cs 0, 160, .inl f)) = xl ad cs (sA σ 59 f) := rfl
theorem xe_60 {ad : Nat → Nat} {cs : Nat → ClassId} {σ : St} : (xl ad cs σ)[60]? = some (ad 60, .inl (cs 0, 160, .inl (σ.2.1 60))) := rfl
theorem xs_60 {ad : Nat → Nat} {cs : Nat → ClassId} {σ : St} (f : Nat → Int32) : (xl ad cs σ).set 60 (ad 60, .inl (cs 0, 160, .inl f)) = xl ad cs (sA σ 60 f) := rfl
theorem xe_61 {ad : Nat → Nat} {cs : Nat → ClassId} {σ : St} : (xl ad cs σ)[61]? = some (ad 61, .inl (cs 0, 160, .inl (σ.2.1 61))) := rfl
theorem xs_61 {ad : Nat → Nat} {cs : Nat → ClassId} {σ : St} (f : Nat → Int32) : (xl ad cs σ).set 61 (ad 61, .inl (cs 0, 160, .inl f)) = xl ad cs (sA σ 61 f) := rfl
theorem xe_62 {ad : Nat → Nat} {cs : Nat → ClassId} {σ : St} : (xl ad cs σ)[62]? = some (ad 62, .inl (cs 0, 160, .inl (σ.2.1 62))) := rfl
theorem xs_62 {ad : Nat → Nat} {cs : Nat → ClassId} {σ : St} (f : Nat → Int32) : (xl ad cs σ).set 62 (ad 62, .inl (cs 0, 160, .inl f)) = xl ad cs (sA σ 62 f) := rfl
theorem xe_63 {ad : Nat → Nat} {cs : Nat → ClassId} {σ : St} : (xl ad cs σ)[63]? = some (ad 63, .inl (cs 0, 6, .inl (σ.2.1 63))) := rfl
theorem xs_63 {ad : Nat → Nat} {cs : Nat → ClassId} {σ : St} (f : Nat → Int32) : (xl ad cs σ).set 63 (ad 63, .inl (cs 0, 6, .inl f)) = xl ad cs (sA σ 63 f) := rfl
theorem xe_64 {ad : Nat → Nat} {cs : Nat → ClassId} {σ : St} : (xl ad cs σ)[64]? = some (ad 64, .inl (cs 0, 6, .inl (σ.2.1 64))) := rfl
theorem xs_64 {ad : Nat → Nat} {cs : Nat → ClassId} {σ : St} (f : Nat → Int32) : (xl ad cs σ).set 64 (ad 64, .inl (cs 0, 6, .inl f)) = xl ad cs (sA σ 64 f) := rfl
theorem xe_65 {ad : Nat → Nat} {cs : Nat → ClassId} {σ : St} : (xl ad cs σ)[65]? = some (ad 65, .inl (cs 0, 160, .inl (σ.2.1 65))) := rfl
theorem xs_65 {ad : Nat → Nat} {cs : Nat → ClassId} {σ : St} (f : Nat → Int32) : (xl ad cs σ).set 65 (ad 65, .inl (cs 0, 160, .inl f)) = xl ad cs (sA σ 65 f) := rfl
theorem xe_66 {ad : Nat → Nat} {cs : Nat → ClassId} {σ : St} : (xl ad cs σ)[66]? = some (ad 66, .inl (cs 0, 30, .inl (σ.2.1 66))) := rfl
theorem xs_66 {ad : Nat → Nat} {cs : Nat → ClassId} {σ : St} (f : Nat → Int32) : (xl ad cs σ).set 66 (ad 66, .inl (cs 0, 30, .inl f)) = xl ad cs (sA σ 66 f) := rfl
theorem xe_67 {ad : Nat → Nat} {cs : Nat → ClassId} {σ : St} : (xl ad cs σ)[67]? = some (ad 67, .inl (cs 0, 30, .inl (σ.2.1 67))) := rfl
theorem xs_67 {ad : Nat → Nat} {cs : Nat → ClassId} {σ : St} (f : Nat → Int32) : (xl ad cs σ).set 67 (ad 67, .inl (cs 0, 30, .inl f)) = xl ad cs (sA σ 67 f) := rfl
theorem xe_68 {ad : Nat → Nat} {cs : Nat → ClassId} {σ : St} : (xl ad cs σ)[68]? = some (ad 68, .inl (cs 0, 30, .inl (σ.2.1 68))) := rfl
theorem xs_68 {ad : Nat → Nat} {cs : Nat → ClassId} {σ : St} (f : Nat → Int32) : (xl ad cs σ).set 68 (ad 68, .inl (cs 0, 30, .inl f)) = xl ad cs (sA σ 68 f) := rfl
theorem xe_69 {ad : Nat → Nat} {cs : Nat → ClassId} {σ : St} : (xl ad cs σ)[69]? = some (ad 69, .inl (cs 0, 20, .inl (σ.2.1 69))) := rfl
theorem xs_69 {ad : Nat → Nat} {cs : Nat → ClassId} {σ : St} (f : Nat → Int32) : (xl ad cs σ).set 69 (ad 69, .inl (cs 0, 20, .inl f)) = xl ad cs (sA σ 69 f) := rfl
theorem xe_70 {ad : Nat → Nat} {cs : Nat → ClassId} {σ : St} : (xl ad cs σ)[70]? = some (ad 70, .inl (cs 0, 20, .inl (σ.2.1 70))) := rfl
theorem xs_70 {ad : Nat → Nat} {cs : Nat → ClassId} {σ : St} (f : Nat → Int32) : (xl ad cs σ).set 70 (ad 70, .inl (cs 0, 20, .inl f)) = xl ad cs (sA σ 70 f) := rfl
theorem xe_71 {ad : Nat → Nat} {cs : Nat → ClassId} {σ : St} : (xl ad cs σ)[71]? = some (ad 71, .inl (cs 0, 20, .inl (σ.2.1 71))) := rfl
theorem xs_71 {ad : Nat → Nat} {cs : Nat → ClassId} {σ : St} (f : Nat → Int32) : (xl ad cs σ).set 71 (ad 71, .inl (cs 0, 20, .inl f)) = xl ad cs (sA σ 71 f) := rfl
theorem xe_72 {ad : Nat → Nat} {cs : Nat → ClassId} {σ : St} : (xl ad cs σ)[72]? = some (ad 72, .inl (cs 0, 48, .inl (σ.2.1 72))) := rfl
theorem xs_72 {ad : Nat → Nat} {cs : Nat → ClassId} {σ : St} (f : Nat → Int32) : (xl ad cs σ).set 72 (ad 72, .inl (cs 0, 48, .inl f)) = xl ad cs (sA σ 72 f) := rfl
theorem xe_73 {ad : Nat → Nat} {cs : Nat → ClassId} {σ : St} : (xl ad cs σ)[73]? = some (ad 73, .inl (cs 0, 48, .inl (σ.2.1 73))) := rfl
theorem xs_73 {ad : Nat → Nat} {cs : Nat → ClassId} {σ : St} (f : Nat → Int32) : (xl ad cs σ).set 73 (ad 73, .inl (cs 0, 48, .inl f)) = xl ad cs (sA σ 73 f) := rfl
theorem xe_74 {ad : Nat → Nat} {cs : Nat → ClassId} {σ : St} : (xl ad cs σ)[74]? = some (ad 74, .inl (cs 0, 6, .inl (σ.2.1 74))) := rfl
theorem xs_74 {ad : Nat → Nat} {cs : Nat → ClassId} {σ : St} (f : Nat → Int32) : (xl ad cs σ).set 74 (ad 74, .inl (cs 0, 6, .inl f)) = xl ad cs (sA σ 74 f) := rfl
theorem xe_75 {ad : Nat → Nat} {cs : Nat → ClassId} {σ : St} : (xl ad cs σ)[75]? = some (ad 75, .inl (cs 0, 6, .inl (σ.2.1 75))) := rfl
theorem xs_75 {ad : Nat → Nat} {cs : Nat → ClassId} {σ : St} (f : Nat → Int32) : (xl ad cs σ).set 75 (ad 75, .inl (cs 0, 6, .inl f)) = xl ad cs (sA σ 75 f) := rfl
theorem xe_76 {ad : Nat → Nat} {cs : Nat → ClassId} {σ : St} : (xl ad cs σ)[76]? = some (ad 76, .inl (cs 0, 64, .inl (σ.2.1 76))) := rfl
theorem xs_76 {ad : Nat → Nat} {cs : Nat → ClassId} {σ : St} (f : Nat → Int32) : (xl ad cs σ).set 76 (ad 76, .inl (cs 0, 64, .inl f)) = xl ad cs (sA σ 76 f) := rfl
theorem xe_77 {ad : Nat → Nat} {cs : Nat → ClassId} {σ : St} : (xl ad cs σ)[77]? = some (ad 77, .inl (cs 0, 64, .inl (σ.2.1 77))) := rfl
theorem xs_77 {ad : Nat → Nat} {cs : Nat → ClassId} {σ : St} (f : Nat → Int32) : (xl ad cs σ).set 77 (ad 77, .inl (cs 0, 64, .inl f)) = xl ad cs (sA σ 77 f) := rfl
theorem xe_78 {ad : Nat → Nat} {cs : Nat → ClassId} {σ : St} : (xl ad cs σ)[78]? = some (ad 78, .inl (cs 0, 4, .inl (σ.2.1 78))) := rfl
theorem xs_78 {ad : Nat → Nat} {cs : Nat → ClassId} {σ : St} (f : Nat → Int32) : (xl ad cs σ).set 78 (ad 78, .inl (cs 0, 4, .inl f)) = xl ad cs (sA σ 78 f) := rfl
theorem xe_79 {ad : Nat → Nat} {cs : Nat → ClassId} {σ : St} : (xl ad cs σ)[79]? = some (ad 79, .inl (cs 0, 4, .inl (σ.2.1 79))) := rfl
theorem xs_79 {ad : Nat → Nat} {cs : Nat → ClassId} {σ : St} (f : Nat → Int32) : (xl ad cs σ).set 79 (ad 79, .inl (cs 0, 4, .inl f)) = xl ad cs (sA σ 79 f) := rfl
theorem xe_80 {ad : Nat → Nat} {cs : Nat → ClassId} {σ : St} : (xl ad cs σ)[80]? = some (ad 80, .inl (cs 3, 4, .inr (.inr (.inr (.inr (fun i => some (ad (81 + i)))))))) := rfl
theorem xe_81 {ad : Nat → Nat} {cs : Nat → ClassId} {σ : St} : (xl ad cs σ)[81]? = some (ad 81, .inl (cs 0, 40, .inl (σ.2.1 81))) := rfl
theorem xs_81 {ad : Nat → Nat} {cs : Nat → ClassId} {σ : St} (f : Nat → Int32) : (xl ad cs σ).set 81 (ad 81, .inl (cs 0, 40, .inl f)) = xl ad cs (sA σ 81 f) := rfl
theorem xe_82 {ad : Nat → Nat} {cs : Nat → ClassId} {σ : St} : (xl ad cs σ)[82]? = some (ad 82, .inl (cs 0, 40, .inl (σ.2.1 82))) := rfl
theorem xs_82 {ad : Nat → Nat} {cs : Nat → ClassId} {σ : St} (f : Nat → Int32) : (xl ad cs σ).set 82 (ad 82, .inl (cs 0, 40, .inl f)) = xl ad cs (sA σ 82 f) := rfl
theorem xe_83 {ad : Nat → Nat} {cs : Nat → ClassId} {σ : St} : (xl ad cs σ)[83]? = some (ad 83, .inl (cs 0, 40, .inl (σ.2.1 83))) := rfl
theorem xs_83 {ad : Nat → Nat} {cs : Nat → ClassId} {σ : St} (f : Nat → Int32) : (xl ad cs σ).set 83 (ad 83, .inl (cs 0, 40, .inl f)) = xl ad cs (sA σ 83 f) := rfl
theorem xe_84 {ad : Nat → Nat} {cs : Nat → ClassId} {σ : St} : (xl ad cs σ)[84]? = some (ad 84, .inl (cs 0, 40, .inl (σ.2.1 84))) := rfl
theorem xs_84 {ad : Nat → Nat} {cs : Nat → ClassId} {σ : St} (f : Nat → Int32) : (xl ad cs σ).set 84 (ad 84, .inl (cs 0, 40, .inl f)) = xl ad cs (sA σ 84 f) := rfl
theorem xu_Land_day {ad : Nat → Nat} {cs : Nat → ClassId} {σ : St} (v : Int32) : (xl ad cs σ).set 1 (ad 1, .inr (4, ([.int (σ.1 0), .int (σ.1 1), .ref (ad 12), .ref (ad 13), .ref (ad 14), .ref (ad 15), .ref (ad 16), .ref (ad 21), .ref (ad 22), .ref (ad 23)] : List Value).set 0 (.int v))) = xl ad cs (sI σ 0 v) := rfl
theorem xu_Land_sales {ad : Nat → Nat} {cs : Nat → ClassId} {σ : St} (v : Int32) : (xl ad cs σ).set 1 (ad 1, .inr (4, ([.int (σ.1 0), .int (σ.1 1), .ref (ad 12), .ref (ad 13), .ref (ad 14), .ref (ad 15), .ref (ad 16), .ref (ad 21), .ref (ad 22), .ref (ad 23)] : List Value).set 1 (.int v))) = xl ad cs (sI σ 1 v) := rfl
theorem x2_17 {ad : Nat → Nat} {cs : Nat → ClassId} {σ : St} {j : Nat} (h : j < 4) : (xl ad cs σ)[17 + j]? = some (ad (17 + j), .inl (cs 0, 48, .inl (σ.2.1 (17 + j)))) := by
  match j, h with
  | 0, _ => rfl
  | 1, _ => rfl
  | 2, _ => rfl
  | 3, _ => rfl
theorem xt_17 {ad : Nat → Nat} {cs : Nat → ClassId} {σ : St} {j : Nat} (h : j < 4) (f : Nat → Int32) : (xl ad cs σ).set (17 + j) (ad (17 + j), .inl (cs 0, 48, .inl f)) = xl ad cs (sA σ (17 + j) f) := by
  match j, h with
  | 0, _ => rfl
  | 1, _ => rfl
  | 2, _ => rfl
  | 3, _ => rfl
theorem x2_25 {ad : Nat → Nat} {cs : Nat → ClassId} {σ : St} {j : Nat} (h : j < 10) : (xl ad cs σ)[25 + j]? = some (ad (25 + j), .inl (cs 0, 10, .inl (σ.2.1 (25 + j)))) := by
  match j, h with
  | 0, _ => rfl
  | 1, _ => rfl
  | 2, _ => rfl
  | 3, _ => rfl
  | 4, _ => rfl
  | 5, _ => rfl
  | 6, _ => rfl
  | 7, _ => rfl
  | 8, _ => rfl
  | 9, _ => rfl
theorem xt_25 {ad : Nat → Nat} {cs : Nat → ClassId} {σ : St} {j : Nat} (h : j < 10) (f : Nat → Int32) : (xl ad cs σ).set (25 + j) (ad (25 + j), .inl (cs 0, 10, .inl f)) = xl ad cs (sA σ (25 + j) f) := by
  match j, h with
  | 0, _ => rfl
  | 1, _ => rfl
  | 2, _ => rfl
  | 3, _ => rfl
  | 4, _ => rfl
  | 5, _ => rfl
  | 6, _ => rfl
  | 7, _ => rfl
  | 8, _ => rfl
  | 9, _ => rfl
theorem xu_Line_towers {ad : Nat → Nat} {cs : Nat → ClassId} {σ : St} (v : Int32) : (xl ad cs σ).set 3 (ad 3, .inr (6, ([.ref (ad 1), .int (σ.1 2), .int (σ.1 3), .ref (ad 36), .ref (ad 37), .ref (ad 38), .ref (ad 39), .ref (ad 40), .ref (ad 41)] : List Value).set 1 (.int v))) = xl ad cs (sI σ 2 v) := rfl
theorem xu_Line_spans {ad : Nat → Nat} {cs : Nat → ClassId} {σ : St} (v : Int32) : (xl ad cs σ).set 3 (ad 3, .inr (6, ([.ref (ad 1), .int (σ.1 2), .int (σ.1 3), .ref (ad 36), .ref (ad 37), .ref (ad 38), .ref (ad 39), .ref (ad 40), .ref (ad 41)] : List Value).set 2 (.int v))) = xl ad cs (sI σ 3 v) := rfl
theorem xu_Leaves_count {ad : Nat → Nat} {cs : Nat → ClassId} {σ : St} (v : Int32) : (xl ad cs σ).set 4 (ad 4, .inr (5, ([.ref (ad 1), .ref (ad 3), .ref (ad 2), .int (σ.1 4), .ref (ad 42), .ref (ad 43), .ref (ad 44), .ref (ad 45), .ref (ad 46), .ref (ad 47), .ref (ad 48), .ref (ad 49), .ref (ad 50)] : List Value).set 3 (.int v))) = xl ad cs (sI σ 4 v) := rfl
theorem xu_Reader_size {ad : Nat → Nat} {cs : Nat → ClassId} {σ : St} (v : Int32) : (xl ad cs σ).set 5 (ad 5, .inr (8, ([.ref (ad 51), .int (σ.1 5), .ref (ad 52), .ref (ad 53), .ref (ad 54), .int (σ.1 6), .int (σ.1 7), .ref (ad 55), .int (σ.1 8), .int (σ.1 9)] : List Value).set 1 (.int v))) = xl ad cs (sI σ 5 v) := rfl
theorem xu_Reader_count {ad : Nat → Nat} {cs : Nat → ClassId} {σ : St} (v : Int32) : (xl ad cs σ).set 5 (ad 5, .inr (8, ([.ref (ad 51), .int (σ.1 5), .ref (ad 52), .ref (ad 53), .ref (ad 54), .int (σ.1 6), .int (σ.1 7), .ref (ad 55), .int (σ.1 8), .int (σ.1 9)] : List Value).set 5 (.int v))) = xl ad cs (sI σ 6 v) := rfl
theorem xu_Reader_at {ad : Nat → Nat} {cs : Nat → ClassId} {σ : St} (v : Int32) : (xl ad cs σ).set 5 (ad 5, .inr (8, ([.ref (ad 51), .int (σ.1 5), .ref (ad 52), .ref (ad 53), .ref (ad 54), .int (σ.1 6), .int (σ.1 7), .ref (ad 55), .int (σ.1 8), .int (σ.1 9)] : List Value).set 6 (.int v))) = xl ad cs (sI σ 7 v) := rfl
theorem xu_Reader_length {ad : Nat → Nat} {cs : Nat → ClassId} {σ : St} (v : Int32) : (xl ad cs σ).set 5 (ad 5, .inr (8, ([.ref (ad 51), .int (σ.1 5), .ref (ad 52), .ref (ad 53), .ref (ad 54), .int (σ.1 6), .int (σ.1 7), .ref (ad 55), .int (σ.1 8), .int (σ.1 9)] : List Value).set 8 (.int v))) = xl ad cs (sI σ 8 v) := rfl
theorem xu_Reader_middle {ad : Nat → Nat} {cs : Nat → ClassId} {σ : St} (v : Int32) : (xl ad cs σ).set 5 (ad 5, .inr (8, ([.ref (ad 51), .int (σ.1 5), .ref (ad 52), .ref (ad 53), .ref (ad 54), .int (σ.1 6), .int (σ.1 7), .ref (ad 55), .int (σ.1 8), .int (σ.1 9)] : List Value).set 9 (.int v))) = xl ad cs (sI σ 9 v) := rfl
theorem xu_Acts_count {ad : Nat → Nat} {cs : Nat → ClassId} {σ : St} (v : Int32) : (xl ad cs σ).set 6 (ad 6, .inr (0, ([.ref (ad 1), .ref (ad 3), .int (σ.1 10), .int (σ.1 11), .ref (ad 56), .ref (ad 63), .ref (ad 64), .ref (ad 65), .int (σ.1 12)] : List Value).set 2 (.int v))) = xl ad cs (sI σ 10 v) := rfl
theorem xu_Acts_inForce {ad : Nat → Nat} {cs : Nat → ClassId} {σ : St} (v : Int32) : (xl ad cs σ).set 6 (ad 6, .inr (0, ([.ref (ad 1), .ref (ad 3), .int (σ.1 10), .int (σ.1 11), .ref (ad 56), .ref (ad 63), .ref (ad 64), .ref (ad 65), .int (σ.1 12)] : List Value).set 3 (.int v))) = xl ad cs (sI σ 11 v) := rfl
theorem x2_57 {ad : Nat → Nat} {cs : Nat → ClassId} {σ : St} {j : Nat} (h : j < 6) : (xl ad cs σ)[57 + j]? = some (ad (57 + j), .inl (cs 0, 160, .inl (σ.2.1 (57 + j)))) := by
  match j, h with
  | 0, _ => rfl
  | 1, _ => rfl
  | 2, _ => rfl
  | 3, _ => rfl
  | 4, _ => rfl
  | 5, _ => rfl
theorem xt_57 {ad : Nat → Nat} {cs : Nat → ClassId} {σ : St} {j : Nat} (h : j < 6) (f : Nat → Int32) : (xl ad cs σ).set (57 + j) (ad (57 + j), .inl (cs 0, 160, .inl f)) = xl ad cs (sA σ (57 + j) f) := by
  match j, h with
  | 0, _ => rfl
  | 1, _ => rfl
  | 2, _ => rfl
  | 3, _ => rfl
  | 4, _ => rfl
  | 5, _ => rfl
theorem xu_Acts_top {ad : Nat → Nat} {cs : Nat → ClassId} {σ : St} (v : Int32) : (xl ad cs σ).set 6 (ad 6, .inr (0, ([.ref (ad 1), .ref (ad 3), .int (σ.1 10), .int (σ.1 11), .ref (ad 56), .ref (ad 63), .ref (ad 64), .ref (ad 65), .int (σ.1 12)] : List Value).set 8 (.int v))) = xl ad cs (sI σ 12 v) := rfl
theorem xu_Claims_count {ad : Nat → Nat} {cs : Nat → ClassId} {σ : St} (v : Int32) : (xl ad cs σ).set 7 (ad 7, .inr (2, ([.ref (ad 1), .ref (ad 4), .ref (ad 6), .ref (ad 2), .int (σ.1 13), .int (σ.1 14), .ref (ad 66), .ref (ad 67), .ref (ad 68)] : List Value).set 4 (.int v))) = xl ad cs (sI σ 13 v) := rfl
theorem xu_Claims_doubles {ad : Nat → Nat} {cs : Nat → ClassId} {σ : St} (v : Int32) : (xl ad cs σ).set 7 (ad 7, .inr (2, ([.ref (ad 1), .ref (ad 4), .ref (ad 6), .ref (ad 2), .int (σ.1 13), .int (σ.1 14), .ref (ad 66), .ref (ad 67), .ref (ad 68)] : List Value).set 5 (.int v))) = xl ad cs (sI σ 14 v) := rfl
theorem xu_Looks_count {ad : Nat → Nat} {cs : Nat → ClassId} {σ : St} (v : Int32) : (xl ad cs σ).set 8 (ad 8, .inr (7, ([.int (σ.1 15), .ref (ad 69), .ref (ad 70), .ref (ad 71)] : List Value).set 0 (.int v))) = xl ad cs (sI σ 15 v) := rfl
theorem xu_Asks_count {ad : Nat → Nat} {cs : Nat → ClassId} {σ : St} (v : Int32) : (xl ad cs σ).set 10 (ad 10, .inr (1, ([.ref (ad 1), .ref (ad 3), .ref (ad 4), .int (σ.1 16), .ref (ad 74), .ref (ad 75), .ref (ad 76), .ref (ad 77)] : List Value).set 3 (.int v))) = xl ad cs (sI σ 16 v) := rfl
theorem x2_81 {ad : Nat → Nat} {cs : Nat → ClassId} {σ : St} {j : Nat} (h : j < 4) : (xl ad cs σ)[81 + j]? = some (ad (81 + j), .inl (cs 0, 40, .inl (σ.2.1 (81 + j)))) := by
  match j, h with
  | 0, _ => rfl
  | 1, _ => rfl
  | 2, _ => rfl
  | 3, _ => rfl
theorem xt_81 {ad : Nat → Nat} {cs : Nat → ClassId} {σ : St} {j : Nat} (h : j < 4) (f : Nat → Int32) : (xl ad cs σ).set (81 + j) (ad (81 + j), .inl (cs 0, 40, .inl f)) = xl ad cs (sA σ (81 + j) f) := by
  match j, h with
  | 0, _ => rfl
  | 1, _ => rfl
  | 2, _ => rfl
  | 3, _ => rfl
theorem me_0 {ad : Nat → Nat} {cs : Nat → ClassId} {σ : St} : (ml ad cs σ)[0]? = some (ad 0, .inr (12, [.int (σ.1 0), .int (σ.1 1), .ref (ad 1), .ref (ad 2), .ref (ad 3), .ref (ad 4), .ref (ad 5), .ref (ad 6), .ref (ad 7), .ref (ad 8), .ref (ad 9), .ref (ad 10), .ref (ad 11), .int (σ.1 2), .ref (ad 12), .ref (ad 13), .int (σ.1 3), .ref (ad 14), .ref (ad 15), .ref (ad 16), .ref (ad 17), .ref (ad 18), .ref (ad 19), .ref (ad 20), .ref (ad 21), .int (σ.1 4), .ref (ad 22), .ref (ad 23), .ref (ad 24), .ref (ad 25), .ref (ad 26), .ref (ad 27), .ref (ad 28), .ref (ad 29), .ref (ad 30), .ref (ad 31), .int (σ.1 5), .int (σ.1 6), .int (σ.1 7), .ref (ad 32), .ref (ad 33), .int (σ.1 8), .int (σ.1 9), .int (σ.1 10), .int (σ.1 11), .ref (ad 34), .ref (ad 35), .ref (ad 36), .int (σ.1 12), .int (σ.1 13), .int (σ.1 14), .ref (ad 37), .int (σ.1 15), .int (σ.1 16), .ref (ad 38), .int (σ.1 17), .ref (ad 39), .ref (ad 40), .ref (ad 41), .int (σ.1 18), .ref (ad 42), .ref (ad 43), .ref (ad 44), .ref (ad 45), .ref (ad 46), .ref (ad 47), .ref (ad 48), .ref (ad 49), .ref (ad 50), .ref (ad 51), .int (σ.1 19), .int (σ.1 20), .ref (ad 52), .ref (ad 53), .ref (ad 54), .ref (ad 55)])) := rfl
theorem me_1 {ad : Nat → Nat} {cs : Nat → ClassId} {σ : St} : (ml ad cs σ)[1]? = some (ad 1, .inl (cs 0, 40, .inl (σ.2.1 1))) := rfl
theorem ms_1 {ad : Nat → Nat} {cs : Nat → ClassId} {σ : St} (f : Nat → Int32) : (ml ad cs σ).set 1 (ad 1, .inl (cs 0, 40, .inl f)) = ml ad cs (sA σ 1 f) := rfl
theorem me_2 {ad : Nat → Nat} {cs : Nat → ClassId} {σ : St} : (ml ad cs σ)[2]? = some (ad 2, .inl (cs 0, 40, .inl (σ.2.1 2))) := rfl
theorem ms_2 {ad : Nat → Nat} {cs : Nat → ClassId} {σ : St} (f : Nat → Int32) : (ml ad cs σ).set 2 (ad 2, .inl (cs 0, 40, .inl f)) = ml ad cs (sA σ 2 f) := rfl
theorem me_3 {ad : Nat → Nat} {cs : Nat → ClassId} {σ : St} : (ml ad cs σ)[3]? = some (ad 3, .inl (cs 0, 40, .inl (σ.2.1 3))) := rfl
theorem ms_3 {ad : Nat → Nat} {cs : Nat → ClassId} {σ : St} (f : Nat → Int32) : (ml ad cs σ).set 3 (ad 3, .inl (cs 0, 40, .inl f)) = ml ad cs (sA σ 3 f) := rfl
theorem me_4 {ad : Nat → Nat} {cs : Nat → ClassId} {σ : St} : (ml ad cs σ)[4]? = some (ad 4, .inl (cs 0, 100, .inl (σ.2.1 4))) := rfl
theorem ms_4 {ad : Nat → Nat} {cs : Nat → ClassId} {σ : St} (f : Nat → Int32) : (ml ad cs σ).set 4 (ad 4, .inl (cs 0, 100, .inl f)) = ml ad cs (sA σ 4 f) := rfl
theorem me_5 {ad : Nat → Nat} {cs : Nat → ClassId} {σ : St} : (ml ad cs σ)[5]? = some (ad 5, .inl (cs 0, 48, .inl (σ.2.1 5))) := rfl
theorem ms_5 {ad : Nat → Nat} {cs : Nat → ClassId} {σ : St} (f : Nat → Int32) : (ml ad cs σ).set 5 (ad 5, .inl (cs 0, 48, .inl f)) = ml ad cs (sA σ 5 f) := rfl
theorem me_6 {ad : Nat → Nat} {cs : Nat → ClassId} {σ : St} : (ml ad cs σ)[6]? = some (ad 6, .inl (cs 0, 48, .inl (σ.2.1 6))) := rfl
theorem ms_6 {ad : Nat → Nat} {cs : Nat → ClassId} {σ : St} (f : Nat → Int32) : (ml ad cs σ).set 6 (ad 6, .inl (cs 0, 48, .inl f)) = ml ad cs (sA σ 6 f) := rfl
theorem me_7 {ad : Nat → Nat} {cs : Nat → ClassId} {σ : St} : (ml ad cs σ)[7]? = some (ad 7, .inl (cs 0, 48, .inl (σ.2.1 7))) := rfl
theorem ms_7 {ad : Nat → Nat} {cs : Nat → ClassId} {σ : St} (f : Nat → Int32) : (ml ad cs σ).set 7 (ad 7, .inl (cs 0, 48, .inl f)) = ml ad cs (sA σ 7 f) := rfl
theorem me_8 {ad : Nat → Nat} {cs : Nat → ClassId} {σ : St} : (ml ad cs σ)[8]? = some (ad 8, .inl (cs 0, 48, .inl (σ.2.1 8))) := rfl
theorem ms_8 {ad : Nat → Nat} {cs : Nat → ClassId} {σ : St} (f : Nat → Int32) : (ml ad cs σ).set 8 (ad 8, .inl (cs 0, 48, .inl f)) = ml ad cs (sA σ 8 f) := rfl
theorem me_9 {ad : Nat → Nat} {cs : Nat → ClassId} {σ : St} : (ml ad cs σ)[9]? = some (ad 9, .inl (cs 0, 48, .inl (σ.2.1 9))) := rfl
theorem ms_9 {ad : Nat → Nat} {cs : Nat → ClassId} {σ : St} (f : Nat → Int32) : (ml ad cs σ).set 9 (ad 9, .inl (cs 0, 48, .inl f)) = ml ad cs (sA σ 9 f) := rfl
theorem me_10 {ad : Nat → Nat} {cs : Nat → ClassId} {σ : St} : (ml ad cs σ)[10]? = some (ad 10, .inl (cs 0, 48, .inl (σ.2.1 10))) := rfl
theorem ms_10 {ad : Nat → Nat} {cs : Nat → ClassId} {σ : St} (f : Nat → Int32) : (ml ad cs σ).set 10 (ad 10, .inl (cs 0, 48, .inl f)) = ml ad cs (sA σ 10 f) := rfl
theorem me_11 {ad : Nat → Nat} {cs : Nat → ClassId} {σ : St} : (ml ad cs σ)[11]? = some (ad 11, .inl (cs 0, 48, .inl (σ.2.1 11))) := rfl
theorem ms_11 {ad : Nat → Nat} {cs : Nat → ClassId} {σ : St} (f : Nat → Int32) : (ml ad cs σ).set 11 (ad 11, .inl (cs 0, 48, .inl f)) = ml ad cs (sA σ 11 f) := rfl
theorem me_12 {ad : Nat → Nat} {cs : Nat → ClassId} {σ : St} : (ml ad cs σ)[12]? = some (ad 12, .inl (cs 0, 16, .inl (σ.2.1 12))) := rfl
theorem ms_12 {ad : Nat → Nat} {cs : Nat → ClassId} {σ : St} (f : Nat → Int32) : (ml ad cs σ).set 12 (ad 12, .inl (cs 0, 16, .inl f)) = ml ad cs (sA σ 12 f) := rfl
theorem me_13 {ad : Nat → Nat} {cs : Nat → ClassId} {σ : St} : (ml ad cs σ)[13]? = some (ad 13, .inl (cs 0, 16, .inl (σ.2.1 13))) := rfl
theorem ms_13 {ad : Nat → Nat} {cs : Nat → ClassId} {σ : St} (f : Nat → Int32) : (ml ad cs σ).set 13 (ad 13, .inl (cs 0, 16, .inl f)) = ml ad cs (sA σ 13 f) := rfl
theorem me_14 {ad : Nat → Nat} {cs : Nat → ClassId} {σ : St} : (ml ad cs σ)[14]? = some (ad 14, .inl (cs 0, 16, .inl (σ.2.1 14))) := rfl
theorem ms_14 {ad : Nat → Nat} {cs : Nat → ClassId} {σ : St} (f : Nat → Int32) : (ml ad cs σ).set 14 (ad 14, .inl (cs 0, 16, .inl f)) = ml ad cs (sA σ 14 f) := rfl
theorem me_15 {ad : Nat → Nat} {cs : Nat → ClassId} {σ : St} : (ml ad cs σ)[15]? = some (ad 15, .inl (cs 0, 16, .inl (σ.2.1 15))) := rfl
theorem ms_15 {ad : Nat → Nat} {cs : Nat → ClassId} {σ : St} (f : Nat → Int32) : (ml ad cs σ).set 15 (ad 15, .inl (cs 0, 16, .inl f)) = ml ad cs (sA σ 15 f) := rfl
theorem me_16 {ad : Nat → Nat} {cs : Nat → ClassId} {σ : St} : (ml ad cs σ)[16]? = some (ad 16, .inl (cs 0, 16, .inl (σ.2.1 16))) := rfl
theorem ms_16 {ad : Nat → Nat} {cs : Nat → ClassId} {σ : St} (f : Nat → Int32) : (ml ad cs σ).set 16 (ad 16, .inl (cs 0, 16, .inl f)) = ml ad cs (sA σ 16 f) := rfl
theorem me_17 {ad : Nat → Nat} {cs : Nat → ClassId} {σ : St} : (ml ad cs σ)[17]? = some (ad 17, .inl (cs 0, 16, .inl (σ.2.1 17))) := rfl
theorem ms_17 {ad : Nat → Nat} {cs : Nat → ClassId} {σ : St} (f : Nat → Int32) : (ml ad cs σ).set 17 (ad 17, .inl (cs 0, 16, .inl f)) = ml ad cs (sA σ 17 f) := rfl
theorem me_18 {ad : Nat → Nat} {cs : Nat → ClassId} {σ : St} : (ml ad cs σ)[18]? = some (ad 18, .inl (cs 0, 16, .inl (σ.2.1 18))) := rfl
theorem ms_18 {ad : Nat → Nat} {cs : Nat → ClassId} {σ : St} (f : Nat → Int32) : (ml ad cs σ).set 18 (ad 18, .inl (cs 0, 16, .inl f)) = ml ad cs (sA σ 18 f) := rfl
theorem me_19 {ad : Nat → Nat} {cs : Nat → ClassId} {σ : St} : (ml ad cs σ)[19]? = some (ad 19, .inl (cs 0, 16, .inl (σ.2.1 19))) := rfl
theorem ms_19 {ad : Nat → Nat} {cs : Nat → ClassId} {σ : St} (f : Nat → Int32) : (ml ad cs σ).set 19 (ad 19, .inl (cs 0, 16, .inl f)) = ml ad cs (sA σ 19 f) := rfl
theorem me_20 {ad : Nat → Nat} {cs : Nat → ClassId} {σ : St} : (ml ad cs σ)[20]? = some (ad 20, .inl (cs 0, 6, .inl (σ.2.1 20))) := rfl
theorem ms_20 {ad : Nat → Nat} {cs : Nat → ClassId} {σ : St} (f : Nat → Int32) : (ml ad cs σ).set 20 (ad 20, .inl (cs 0, 6, .inl f)) = ml ad cs (sA σ 20 f) := rfl
theorem me_21 {ad : Nat → Nat} {cs : Nat → ClassId} {σ : St} : (ml ad cs σ)[21]? = some (ad 21, .inl (cs 0, 6, .inl (σ.2.1 21))) := rfl
theorem ms_21 {ad : Nat → Nat} {cs : Nat → ClassId} {σ : St} (f : Nat → Int32) : (ml ad cs σ).set 21 (ad 21, .inl (cs 0, 6, .inl f)) = ml ad cs (sA σ 21 f) := rfl
theorem me_22 {ad : Nat → Nat} {cs : Nat → ClassId} {σ : St} : (ml ad cs σ)[22]? = some (ad 22, .inl (cs 0, 24, .inl (σ.2.1 22))) := rfl
theorem ms_22 {ad : Nat → Nat} {cs : Nat → ClassId} {σ : St} (f : Nat → Int32) : (ml ad cs σ).set 22 (ad 22, .inl (cs 0, 24, .inl f)) = ml ad cs (sA σ 22 f) := rfl
theorem me_23 {ad : Nat → Nat} {cs : Nat → ClassId} {σ : St} : (ml ad cs σ)[23]? = some (ad 23, .inl (cs 0, 24, .inl (σ.2.1 23))) := rfl
theorem ms_23 {ad : Nat → Nat} {cs : Nat → ClassId} {σ : St} (f : Nat → Int32) : (ml ad cs σ).set 23 (ad 23, .inl (cs 0, 24, .inl f)) = ml ad cs (sA σ 23 f) := rfl
theorem me_24 {ad : Nat → Nat} {cs : Nat → ClassId} {σ : St} : (ml ad cs σ)[24]? = some (ad 24, .inl (cs 0, 24, .inl (σ.2.1 24))) := rfl
theorem ms_24 {ad : Nat → Nat} {cs : Nat → ClassId} {σ : St} (f : Nat → Int32) : (ml ad cs σ).set 24 (ad 24, .inl (cs 0, 24, .inl f)) = ml ad cs (sA σ 24 f) := rfl
theorem me_25 {ad : Nat → Nat} {cs : Nat → ClassId} {σ : St} : (ml ad cs σ)[25]? = some (ad 25, .inl (cs 0, 24, .inl (σ.2.1 25))) := rfl
theorem ms_25 {ad : Nat → Nat} {cs : Nat → ClassId} {σ : St} (f : Nat → Int32) : (ml ad cs σ).set 25 (ad 25, .inl (cs 0, 24, .inl f)) = ml ad cs (sA σ 25 f) := rfl
theorem me_26 {ad : Nat → Nat} {cs : Nat → ClassId} {σ : St} : (ml ad cs σ)[26]? = some (ad 26, .inl (cs 0, 24, .inl (σ.2.1 26))) := rfl
theorem ms_26 {ad : Nat → Nat} {cs : Nat → ClassId} {σ : St} (f : Nat → Int32) : (ml ad cs σ).set 26 (ad 26, .inl (cs 0, 24, .inl f)) = ml ad cs (sA σ 26 f) := rfl
theorem me_27 {ad : Nat → Nat} {cs : Nat → ClassId} {σ : St} : (ml ad cs σ)[27]? = some (ad 27, .inl (cs 0, 24, .inl (σ.2.1 27))) := rfl
theorem ms_27 {ad : Nat → Nat} {cs : Nat → ClassId} {σ : St} (f : Nat → Int32) : (ml ad cs σ).set 27 (ad 27, .inl (cs 0, 24, .inl f)) = ml ad cs (sA σ 27 f) := rfl
theorem me_28 {ad : Nat → Nat} {cs : Nat → ClassId} {σ : St} : (ml ad cs σ)[28]? = some (ad 28, .inl (cs 2, 24, .inl (σ.2.1 28))) := rfl
theorem ms_28 {ad : Nat → Nat} {cs : Nat → ClassId} {σ : St} (f : Nat → Int32) : (ml ad cs σ).set 28 (ad 28, .inl (cs 2, 24, .inl f)) = ml ad cs (sA σ 28 f) := rfl
theorem me_29 {ad : Nat → Nat} {cs : Nat → ClassId} {σ : St} : (ml ad cs σ)[29]? = some (ad 29, .inl (cs 0, 24, .inl (σ.2.1 29))) := rfl
theorem ms_29 {ad : Nat → Nat} {cs : Nat → ClassId} {σ : St} (f : Nat → Int32) : (ml ad cs σ).set 29 (ad 29, .inl (cs 0, 24, .inl f)) = ml ad cs (sA σ 29 f) := rfl
theorem me_30 {ad : Nat → Nat} {cs : Nat → ClassId} {σ : St} : (ml ad cs σ)[30]? = some (ad 30, .inl (cs 1, 10, .inr (.inl (σ.2.2 30)))) := rfl
theorem ms_30 {ad : Nat → Nat} {cs : Nat → ClassId} {σ : St} (f : Nat → Int64) : (ml ad cs σ).set 30 (ad 30, .inl (cs 1, 10, .inr (.inl f))) = ml ad cs (sJ σ 30 f) := rfl
theorem me_31 {ad : Nat → Nat} {cs : Nat → ClassId} {σ : St} : (ml ad cs σ)[31]? = some (ad 31, .inl (cs 4, 160, .inl (σ.2.1 31))) := rfl
theorem ms_31 {ad : Nat → Nat} {cs : Nat → ClassId} {σ : St} (f : Nat → Int32) : (ml ad cs σ).set 31 (ad 31, .inl (cs 4, 160, .inl f)) = ml ad cs (sA σ 31 f) := rfl
theorem me_32 {ad : Nat → Nat} {cs : Nat → ClassId} {σ : St} : (ml ad cs σ)[32]? = some (ad 32, .inl (cs 0, 1920, .inl (σ.2.1 32))) := rfl
theorem ms_32 {ad : Nat → Nat} {cs : Nat → ClassId} {σ : St} (f : Nat → Int32) : (ml ad cs σ).set 32 (ad 32, .inl (cs 0, 1920, .inl f)) = ml ad cs (sA σ 32 f) := rfl
theorem me_33 {ad : Nat → Nat} {cs : Nat → ClassId} {σ : St} : (ml ad cs σ)[33]? = some (ad 33, .inl (cs 0, 12, .inl (σ.2.1 33))) := rfl
theorem ms_33 {ad : Nat → Nat} {cs : Nat → ClassId} {σ : St} (f : Nat → Int32) : (ml ad cs σ).set 33 (ad 33, .inl (cs 0, 12, .inl f)) = ml ad cs (sA σ 33 f) := rfl
theorem me_34 {ad : Nat → Nat} {cs : Nat → ClassId} {σ : St} : (ml ad cs σ)[34]? = some (ad 34, .inl (cs 5, 41, .inl (σ.2.1 34))) := rfl
theorem ms_34 {ad : Nat → Nat} {cs : Nat → ClassId} {σ : St} (f : Nat → Int32) : (ml ad cs σ).set 34 (ad 34, .inl (cs 5, 41, .inl f)) = ml ad cs (sA σ 34 f) := rfl
theorem me_35 {ad : Nat → Nat} {cs : Nat → ClassId} {σ : St} : (ml ad cs σ)[35]? = some (ad 35, .inl (cs 0, 12, .inl (σ.2.1 35))) := rfl
theorem ms_35 {ad : Nat → Nat} {cs : Nat → ClassId} {σ : St} (f : Nat → Int32) : (ml ad cs σ).set 35 (ad 35, .inl (cs 0, 12, .inl f)) = ml ad cs (sA σ 35 f) := rfl
theorem me_36 {ad : Nat → Nat} {cs : Nat → ClassId} {σ : St} : (ml ad cs σ)[36]? = some (ad 36, .inl (cs 0, 170, .inl (σ.2.1 36))) := rfl
theorem ms_36 {ad : Nat → Nat} {cs : Nat → ClassId} {σ : St} (f : Nat → Int32) : (ml ad cs σ).set 36 (ad 36, .inl (cs 0, 170, .inl f)) = ml ad cs (sA σ 36 f) := rfl
theorem me_37 {ad : Nat → Nat} {cs : Nat → ClassId} {σ : St} : (ml ad cs σ)[37]? = some (ad 37, .inl (cs 2, 8, .inl (σ.2.1 37))) := rfl
theorem ms_37 {ad : Nat → Nat} {cs : Nat → ClassId} {σ : St} (f : Nat → Int32) : (ml ad cs σ).set 37 (ad 37, .inl (cs 2, 8, .inl f)) = ml ad cs (sA σ 37 f) := rfl
theorem me_38 {ad : Nat → Nat} {cs : Nat → ClassId} {σ : St} : (ml ad cs σ)[38]? = some (ad 38, .inl (cs 0, 170, .inl (σ.2.1 38))) := rfl
theorem ms_38 {ad : Nat → Nat} {cs : Nat → ClassId} {σ : St} (f : Nat → Int32) : (ml ad cs σ).set 38 (ad 38, .inl (cs 0, 170, .inl f)) = ml ad cs (sA σ 38 f) := rfl
theorem me_39 {ad : Nat → Nat} {cs : Nat → ClassId} {σ : St} : (ml ad cs σ)[39]? = some (ad 39, .inl (cs 0, 30, .inl (σ.2.1 39))) := rfl
theorem ms_39 {ad : Nat → Nat} {cs : Nat → ClassId} {σ : St} (f : Nat → Int32) : (ml ad cs σ).set 39 (ad 39, .inl (cs 0, 30, .inl f)) = ml ad cs (sA σ 39 f) := rfl
theorem me_40 {ad : Nat → Nat} {cs : Nat → ClassId} {σ : St} : (ml ad cs σ)[40]? = some (ad 40, .inl (cs 0, 30, .inl (σ.2.1 40))) := rfl
theorem ms_40 {ad : Nat → Nat} {cs : Nat → ClassId} {σ : St} (f : Nat → Int32) : (ml ad cs σ).set 40 (ad 40, .inl (cs 0, 30, .inl f)) = ml ad cs (sA σ 40 f) := rfl
theorem me_41 {ad : Nat → Nat} {cs : Nat → ClassId} {σ : St} : (ml ad cs σ)[41]? = some (ad 41, .inl (cs 0, 30, .inl (σ.2.1 41))) := rfl
theorem ms_41 {ad : Nat → Nat} {cs : Nat → ClassId} {σ : St} (f : Nat → Int32) : (ml ad cs σ).set 41 (ad 41, .inl (cs 0, 30, .inl f)) = ml ad cs (sA σ 41 f) := rfl
theorem me_42 {ad : Nat → Nat} {cs : Nat → ClassId} {σ : St} : (ml ad cs σ)[42]? = some (ad 42, .inl (cs 0, 20, .inl (σ.2.1 42))) := rfl
theorem ms_42 {ad : Nat → Nat} {cs : Nat → ClassId} {σ : St} (f : Nat → Int32) : (ml ad cs σ).set 42 (ad 42, .inl (cs 0, 20, .inl f)) = ml ad cs (sA σ 42 f) := rfl
theorem me_43 {ad : Nat → Nat} {cs : Nat → ClassId} {σ : St} : (ml ad cs σ)[43]? = some (ad 43, .inl (cs 0, 20, .inl (σ.2.1 43))) := rfl
theorem ms_43 {ad : Nat → Nat} {cs : Nat → ClassId} {σ : St} (f : Nat → Int32) : (ml ad cs σ).set 43 (ad 43, .inl (cs 0, 20, .inl f)) = ml ad cs (sA σ 43 f) := rfl
theorem me_44 {ad : Nat → Nat} {cs : Nat → ClassId} {σ : St} : (ml ad cs σ)[44]? = some (ad 44, .inl (cs 0, 20, .inl (σ.2.1 44))) := rfl
theorem ms_44 {ad : Nat → Nat} {cs : Nat → ClassId} {σ : St} (f : Nat → Int32) : (ml ad cs σ).set 44 (ad 44, .inl (cs 0, 20, .inl f)) = ml ad cs (sA σ 44 f) := rfl
theorem me_45 {ad : Nat → Nat} {cs : Nat → ClassId} {σ : St} : (ml ad cs σ)[45]? = some (ad 45, .inl (cs 0, 10, .inl (σ.2.1 45))) := rfl
theorem ms_45 {ad : Nat → Nat} {cs : Nat → ClassId} {σ : St} (f : Nat → Int32) : (ml ad cs σ).set 45 (ad 45, .inl (cs 0, 10, .inl f)) = ml ad cs (sA σ 45 f) := rfl
theorem me_46 {ad : Nat → Nat} {cs : Nat → ClassId} {σ : St} : (ml ad cs σ)[46]? = some (ad 46, .inl (cs 0, 48, .inl (σ.2.1 46))) := rfl
theorem ms_46 {ad : Nat → Nat} {cs : Nat → ClassId} {σ : St} (f : Nat → Int32) : (ml ad cs σ).set 46 (ad 46, .inl (cs 0, 48, .inl f)) = ml ad cs (sA σ 46 f) := rfl
theorem me_47 {ad : Nat → Nat} {cs : Nat → ClassId} {σ : St} : (ml ad cs σ)[47]? = some (ad 47, .inl (cs 0, 48, .inl (σ.2.1 47))) := rfl
theorem ms_47 {ad : Nat → Nat} {cs : Nat → ClassId} {σ : St} (f : Nat → Int32) : (ml ad cs σ).set 47 (ad 47, .inl (cs 0, 48, .inl f)) = ml ad cs (sA σ 47 f) := rfl
theorem me_48 {ad : Nat → Nat} {cs : Nat → ClassId} {σ : St} : (ml ad cs σ)[48]? = some (ad 48, .inl (cs 0, 6, .inl (σ.2.1 48))) := rfl
theorem ms_48 {ad : Nat → Nat} {cs : Nat → ClassId} {σ : St} (f : Nat → Int32) : (ml ad cs σ).set 48 (ad 48, .inl (cs 0, 6, .inl f)) = ml ad cs (sA σ 48 f) := rfl
theorem me_49 {ad : Nat → Nat} {cs : Nat → ClassId} {σ : St} : (ml ad cs σ)[49]? = some (ad 49, .inl (cs 0, 6, .inl (σ.2.1 49))) := rfl
theorem ms_49 {ad : Nat → Nat} {cs : Nat → ClassId} {σ : St} (f : Nat → Int32) : (ml ad cs σ).set 49 (ad 49, .inl (cs 0, 6, .inl f)) = ml ad cs (sA σ 49 f) := rfl
theorem me_50 {ad : Nat → Nat} {cs : Nat → ClassId} {σ : St} : (ml ad cs σ)[50]? = some (ad 50, .inl (cs 0, 6, .inl (σ.2.1 50))) := rfl
theorem ms_50 {ad : Nat → Nat} {cs : Nat → ClassId} {σ : St} (f : Nat → Int32) : (ml ad cs σ).set 50 (ad 50, .inl (cs 0, 6, .inl f)) = ml ad cs (sA σ 50 f) := rfl
theorem me_51 {ad : Nat → Nat} {cs : Nat → ClassId} {σ : St} : (ml ad cs σ)[51]? = some (ad 51, .inl (cs 0, 6, .inl (σ.2.1 51))) := rfl
theorem ms_51 {ad : Nat → Nat} {cs : Nat → ClassId} {σ : St} (f : Nat → Int32) : (ml ad cs σ).set 51 (ad 51, .inl (cs 0, 6, .inl f)) = ml ad cs (sA σ 51 f) := rfl
theorem me_52 {ad : Nat → Nat} {cs : Nat → ClassId} {σ : St} : (ml ad cs σ)[52]? = some (ad 52, .inl (cs 0, 4, .inl (σ.2.1 52))) := rfl
theorem ms_52 {ad : Nat → Nat} {cs : Nat → ClassId} {σ : St} (f : Nat → Int32) : (ml ad cs σ).set 52 (ad 52, .inl (cs 0, 4, .inl f)) = ml ad cs (sA σ 52 f) := rfl
theorem me_53 {ad : Nat → Nat} {cs : Nat → ClassId} {σ : St} : (ml ad cs σ)[53]? = some (ad 53, .inl (cs 0, 4, .inl (σ.2.1 53))) := rfl
theorem ms_53 {ad : Nat → Nat} {cs : Nat → ClassId} {σ : St} (f : Nat → Int32) : (ml ad cs σ).set 53 (ad 53, .inl (cs 0, 4, .inl f)) = ml ad cs (sA σ 53 f) := rfl
theorem me_54 {ad : Nat → Nat} {cs : Nat → ClassId} {σ : St} : (ml ad cs σ)[54]? = some (ad 54, .inl (cs 0, 160, .inl (σ.2.1 54))) := rfl
theorem ms_54 {ad : Nat → Nat} {cs : Nat → ClassId} {σ : St} (f : Nat → Int32) : (ml ad cs σ).set 54 (ad 54, .inl (cs 0, 160, .inl f)) = ml ad cs (sA σ 54 f) := rfl
theorem me_55 {ad : Nat → Nat} {cs : Nat → ClassId} {σ : St} : (ml ad cs σ)[55]? = some (ad 55, .inl (cs 0, 40, .inl (σ.2.1 55))) := rfl
theorem ms_55 {ad : Nat → Nat} {cs : Nat → ClassId} {σ : St} (f : Nat → Int32) : (ml ad cs σ).set 55 (ad 55, .inl (cs 0, 40, .inl f)) = ml ad cs (sA σ 55 f) := rfl
theorem mu_WayLeavesModel_today {ad : Nat → Nat} {cs : Nat → ClassId} {σ : St} (v : Int32) : (ml ad cs σ).set 0 (ad 0, .inr (12, ([.int (σ.1 0), .int (σ.1 1), .ref (ad 1), .ref (ad 2), .ref (ad 3), .ref (ad 4), .ref (ad 5), .ref (ad 6), .ref (ad 7), .ref (ad 8), .ref (ad 9), .ref (ad 10), .ref (ad 11), .int (σ.1 2), .ref (ad 12), .ref (ad 13), .int (σ.1 3), .ref (ad 14), .ref (ad 15), .ref (ad 16), .ref (ad 17), .ref (ad 18), .ref (ad 19), .ref (ad 20), .ref (ad 21), .int (σ.1 4), .ref (ad 22), .ref (ad 23), .ref (ad 24), .ref (ad 25), .ref (ad 26), .ref (ad 27), .ref (ad 28), .ref (ad 29), .ref (ad 30), .ref (ad 31), .int (σ.1 5), .int (σ.1 6), .int (σ.1 7), .ref (ad 32), .ref (ad 33), .int (σ.1 8), .int (σ.1 9), .int (σ.1 10), .int (σ.1 11), .ref (ad 34), .ref (ad 35), .ref (ad 36), .int (σ.1 12), .int (σ.1 13), .int (σ.1 14), .ref (ad 37), .int (σ.1 15), .int (σ.1 16), .ref (ad 38), .int (σ.1 17), .ref (ad 39), .ref (ad 40), .ref (ad 41), .int (σ.1 18), .ref (ad 42), .ref (ad 43), .ref (ad 44), .ref (ad 45), .ref (ad 46), .ref (ad 47), .ref (ad 48), .ref (ad 49), .ref (ad 50), .ref (ad 51), .int (σ.1 19), .int (σ.1 20), .ref (ad 52), .ref (ad 53), .ref (ad 54), .ref (ad 55)] : List Value).set 0 (.int v))) = ml ad cs (sI σ 0 v) := rfl
theorem mu_WayLeavesModel_sales {ad : Nat → Nat} {cs : Nat → ClassId} {σ : St} (v : Int32) : (ml ad cs σ).set 0 (ad 0, .inr (12, ([.int (σ.1 0), .int (σ.1 1), .ref (ad 1), .ref (ad 2), .ref (ad 3), .ref (ad 4), .ref (ad 5), .ref (ad 6), .ref (ad 7), .ref (ad 8), .ref (ad 9), .ref (ad 10), .ref (ad 11), .int (σ.1 2), .ref (ad 12), .ref (ad 13), .int (σ.1 3), .ref (ad 14), .ref (ad 15), .ref (ad 16), .ref (ad 17), .ref (ad 18), .ref (ad 19), .ref (ad 20), .ref (ad 21), .int (σ.1 4), .ref (ad 22), .ref (ad 23), .ref (ad 24), .ref (ad 25), .ref (ad 26), .ref (ad 27), .ref (ad 28), .ref (ad 29), .ref (ad 30), .ref (ad 31), .int (σ.1 5), .int (σ.1 6), .int (σ.1 7), .ref (ad 32), .ref (ad 33), .int (σ.1 8), .int (σ.1 9), .int (σ.1 10), .int (σ.1 11), .ref (ad 34), .ref (ad 35), .ref (ad 36), .int (σ.1 12), .int (σ.1 13), .int (σ.1 14), .ref (ad 37), .int (σ.1 15), .int (σ.1 16), .ref (ad 38), .int (σ.1 17), .ref (ad 39), .ref (ad 40), .ref (ad 41), .int (σ.1 18), .ref (ad 42), .ref (ad 43), .ref (ad 44), .ref (ad 45), .ref (ad 46), .ref (ad 47), .ref (ad 48), .ref (ad 49), .ref (ad 50), .ref (ad 51), .int (σ.1 19), .int (σ.1 20), .ref (ad 52), .ref (ad 53), .ref (ad 54), .ref (ad 55)] : List Value).set 1 (.int v))) = ml ad cs (sI σ 1 v) := rfl
theorem mu_WayLeavesModel_towers {ad : Nat → Nat} {cs : Nat → ClassId} {σ : St} (v : Int32) : (ml ad cs σ).set 0 (ad 0, .inr (12, ([.int (σ.1 0), .int (σ.1 1), .ref (ad 1), .ref (ad 2), .ref (ad 3), .ref (ad 4), .ref (ad 5), .ref (ad 6), .ref (ad 7), .ref (ad 8), .ref (ad 9), .ref (ad 10), .ref (ad 11), .int (σ.1 2), .ref (ad 12), .ref (ad 13), .int (σ.1 3), .ref (ad 14), .ref (ad 15), .ref (ad 16), .ref (ad 17), .ref (ad 18), .ref (ad 19), .ref (ad 20), .ref (ad 21), .int (σ.1 4), .ref (ad 22), .ref (ad 23), .ref (ad 24), .ref (ad 25), .ref (ad 26), .ref (ad 27), .ref (ad 28), .ref (ad 29), .ref (ad 30), .ref (ad 31), .int (σ.1 5), .int (σ.1 6), .int (σ.1 7), .ref (ad 32), .ref (ad 33), .int (σ.1 8), .int (σ.1 9), .int (σ.1 10), .int (σ.1 11), .ref (ad 34), .ref (ad 35), .ref (ad 36), .int (σ.1 12), .int (σ.1 13), .int (σ.1 14), .ref (ad 37), .int (σ.1 15), .int (σ.1 16), .ref (ad 38), .int (σ.1 17), .ref (ad 39), .ref (ad 40), .ref (ad 41), .int (σ.1 18), .ref (ad 42), .ref (ad 43), .ref (ad 44), .ref (ad 45), .ref (ad 46), .ref (ad 47), .ref (ad 48), .ref (ad 49), .ref (ad 50), .ref (ad 51), .int (σ.1 19), .int (σ.1 20), .ref (ad 52), .ref (ad 53), .ref (ad 54), .ref (ad 55)] : List Value).set 13 (.int v))) = ml ad cs (sI σ 2 v) := rfl
theorem mu_WayLeavesModel_spans {ad : Nat → Nat} {cs : Nat → ClassId} {σ : St} (v : Int32) : (ml ad cs σ).set 0 (ad 0, .inr (12, ([.int (σ.1 0), .int (σ.1 1), .ref (ad 1), .ref (ad 2), .ref (ad 3), .ref (ad 4), .ref (ad 5), .ref (ad 6), .ref (ad 7), .ref (ad 8), .ref (ad 9), .ref (ad 10), .ref (ad 11), .int (σ.1 2), .ref (ad 12), .ref (ad 13), .int (σ.1 3), .ref (ad 14), .ref (ad 15), .ref (ad 16), .ref (ad 17), .ref (ad 18), .ref (ad 19), .ref (ad 20), .ref (ad 21), .int (σ.1 4), .ref (ad 22), .ref (ad 23), .ref (ad 24), .ref (ad 25), .ref (ad 26), .ref (ad 27), .ref (ad 28), .ref (ad 29), .ref (ad 30), .ref (ad 31), .int (σ.1 5), .int (σ.1 6), .int (σ.1 7), .ref (ad 32), .ref (ad 33), .int (σ.1 8), .int (σ.1 9), .int (σ.1 10), .int (σ.1 11), .ref (ad 34), .ref (ad 35), .ref (ad 36), .int (σ.1 12), .int (σ.1 13), .int (σ.1 14), .ref (ad 37), .int (σ.1 15), .int (σ.1 16), .ref (ad 38), .int (σ.1 17), .ref (ad 39), .ref (ad 40), .ref (ad 41), .int (σ.1 18), .ref (ad 42), .ref (ad 43), .ref (ad 44), .ref (ad 45), .ref (ad 46), .ref (ad 47), .ref (ad 48), .ref (ad 49), .ref (ad 50), .ref (ad 51), .int (σ.1 19), .int (σ.1 20), .ref (ad 52), .ref (ad 53), .ref (ad 54), .ref (ad 55)] : List Value).set 16 (.int v))) = ml ad cs (sI σ 3 v) := rfl
theorem mu_WayLeavesModel_leaves {ad : Nat → Nat} {cs : Nat → ClassId} {σ : St} (v : Int32) : (ml ad cs σ).set 0 (ad 0, .inr (12, ([.int (σ.1 0), .int (σ.1 1), .ref (ad 1), .ref (ad 2), .ref (ad 3), .ref (ad 4), .ref (ad 5), .ref (ad 6), .ref (ad 7), .ref (ad 8), .ref (ad 9), .ref (ad 10), .ref (ad 11), .int (σ.1 2), .ref (ad 12), .ref (ad 13), .int (σ.1 3), .ref (ad 14), .ref (ad 15), .ref (ad 16), .ref (ad 17), .ref (ad 18), .ref (ad 19), .ref (ad 20), .ref (ad 21), .int (σ.1 4), .ref (ad 22), .ref (ad 23), .ref (ad 24), .ref (ad 25), .ref (ad 26), .ref (ad 27), .ref (ad 28), .ref (ad 29), .ref (ad 30), .ref (ad 31), .int (σ.1 5), .int (σ.1 6), .int (σ.1 7), .ref (ad 32), .ref (ad 33), .int (σ.1 8), .int (σ.1 9), .int (σ.1 10), .int (σ.1 11), .ref (ad 34), .ref (ad 35), .ref (ad 36), .int (σ.1 12), .int (σ.1 13), .int (σ.1 14), .ref (ad 37), .int (σ.1 15), .int (σ.1 16), .ref (ad 38), .int (σ.1 17), .ref (ad 39), .ref (ad 40), .ref (ad 41), .int (σ.1 18), .ref (ad 42), .ref (ad 43), .ref (ad 44), .ref (ad 45), .ref (ad 46), .ref (ad 47), .ref (ad 48), .ref (ad 49), .ref (ad 50), .ref (ad 51), .int (σ.1 19), .int (σ.1 20), .ref (ad 52), .ref (ad 53), .ref (ad 54), .ref (ad 55)] : List Value).set 25 (.int v))) = ml ad cs (sI σ 4 v) := rfl
theorem mu_WayLeavesModel_taped {ad : Nat → Nat} {cs : Nat → ClassId} {σ : St} (v : Int32) : (ml ad cs σ).set 0 (ad 0, .inr (12, ([.int (σ.1 0), .int (σ.1 1), .ref (ad 1), .ref (ad 2), .ref (ad 3), .ref (ad 4), .ref (ad 5), .ref (ad 6), .ref (ad 7), .ref (ad 8), .ref (ad 9), .ref (ad 10), .ref (ad 11), .int (σ.1 2), .ref (ad 12), .ref (ad 13), .int (σ.1 3), .ref (ad 14), .ref (ad 15), .ref (ad 16), .ref (ad 17), .ref (ad 18), .ref (ad 19), .ref (ad 20), .ref (ad 21), .int (σ.1 4), .ref (ad 22), .ref (ad 23), .ref (ad 24), .ref (ad 25), .ref (ad 26), .ref (ad 27), .ref (ad 28), .ref (ad 29), .ref (ad 30), .ref (ad 31), .int (σ.1 5), .int (σ.1 6), .int (σ.1 7), .ref (ad 32), .ref (ad 33), .int (σ.1 8), .int (σ.1 9), .int (σ.1 10), .int (σ.1 11), .ref (ad 34), .ref (ad 35), .ref (ad 36), .int (σ.1 12), .int (σ.1 13), .int (σ.1 14), .ref (ad 37), .int (σ.1 15), .int (σ.1 16), .ref (ad 38), .int (σ.1 17), .ref (ad 39), .ref (ad 40), .ref (ad 41), .int (σ.1 18), .ref (ad 42), .ref (ad 43), .ref (ad 44), .ref (ad 45), .ref (ad 46), .ref (ad 47), .ref (ad 48), .ref (ad 49), .ref (ad 50), .ref (ad 51), .int (σ.1 19), .int (σ.1 20), .ref (ad 52), .ref (ad 53), .ref (ad 54), .ref (ad 55)] : List Value).set 36 (.int v))) = ml ad cs (sI σ 5 v) := rfl
theorem mu_WayLeavesModel_texts {ad : Nat → Nat} {cs : Nat → ClassId} {σ : St} (v : Int32) : (ml ad cs σ).set 0 (ad 0, .inr (12, ([.int (σ.1 0), .int (σ.1 1), .ref (ad 1), .ref (ad 2), .ref (ad 3), .ref (ad 4), .ref (ad 5), .ref (ad 6), .ref (ad 7), .ref (ad 8), .ref (ad 9), .ref (ad 10), .ref (ad 11), .int (σ.1 2), .ref (ad 12), .ref (ad 13), .int (σ.1 3), .ref (ad 14), .ref (ad 15), .ref (ad 16), .ref (ad 17), .ref (ad 18), .ref (ad 19), .ref (ad 20), .ref (ad 21), .int (σ.1 4), .ref (ad 22), .ref (ad 23), .ref (ad 24), .ref (ad 25), .ref (ad 26), .ref (ad 27), .ref (ad 28), .ref (ad 29), .ref (ad 30), .ref (ad 31), .int (σ.1 5), .int (σ.1 6), .int (σ.1 7), .ref (ad 32), .ref (ad 33), .int (σ.1 8), .int (σ.1 9), .int (σ.1 10), .int (σ.1 11), .ref (ad 34), .ref (ad 35), .ref (ad 36), .int (σ.1 12), .int (σ.1 13), .int (σ.1 14), .ref (ad 37), .int (σ.1 15), .int (σ.1 16), .ref (ad 38), .int (σ.1 17), .ref (ad 39), .ref (ad 40), .ref (ad 41), .int (σ.1 18), .ref (ad 42), .ref (ad 43), .ref (ad 44), .ref (ad 45), .ref (ad 46), .ref (ad 47), .ref (ad 48), .ref (ad 49), .ref (ad 50), .ref (ad 51), .int (σ.1 19), .int (σ.1 20), .ref (ad 52), .ref (ad 53), .ref (ad 54), .ref (ad 55)] : List Value).set 37 (.int v))) = ml ad cs (sI σ 6 v) := rfl
theorem mu_WayLeavesModel_rule {ad : Nat → Nat} {cs : Nat → ClassId} {σ : St} (v : Int32) : (ml ad cs σ).set 0 (ad 0, .inr (12, ([.int (σ.1 0), .int (σ.1 1), .ref (ad 1), .ref (ad 2), .ref (ad 3), .ref (ad 4), .ref (ad 5), .ref (ad 6), .ref (ad 7), .ref (ad 8), .ref (ad 9), .ref (ad 10), .ref (ad 11), .int (σ.1 2), .ref (ad 12), .ref (ad 13), .int (σ.1 3), .ref (ad 14), .ref (ad 15), .ref (ad 16), .ref (ad 17), .ref (ad 18), .ref (ad 19), .ref (ad 20), .ref (ad 21), .int (σ.1 4), .ref (ad 22), .ref (ad 23), .ref (ad 24), .ref (ad 25), .ref (ad 26), .ref (ad 27), .ref (ad 28), .ref (ad 29), .ref (ad 30), .ref (ad 31), .int (σ.1 5), .int (σ.1 6), .int (σ.1 7), .ref (ad 32), .ref (ad 33), .int (σ.1 8), .int (σ.1 9), .int (σ.1 10), .int (σ.1 11), .ref (ad 34), .ref (ad 35), .ref (ad 36), .int (σ.1 12), .int (σ.1 13), .int (σ.1 14), .ref (ad 37), .int (σ.1 15), .int (σ.1 16), .ref (ad 38), .int (σ.1 17), .ref (ad 39), .ref (ad 40), .ref (ad 41), .int (σ.1 18), .ref (ad 42), .ref (ad 43), .ref (ad 44), .ref (ad 45), .ref (ad 46), .ref (ad 47), .ref (ad 48), .ref (ad 49), .ref (ad 50), .ref (ad 51), .int (σ.1 19), .int (σ.1 20), .ref (ad 52), .ref (ad 53), .ref (ad 54), .ref (ad 55)] : List Value).set 38 (.int v))) = ml ad cs (sI σ 7 v) := rfl
theorem mu_WayLeavesModel_at {ad : Nat → Nat} {cs : Nat → ClassId} {σ : St} (v : Int32) : (ml ad cs σ).set 0 (ad 0, .inr (12, ([.int (σ.1 0), .int (σ.1 1), .ref (ad 1), .ref (ad 2), .ref (ad 3), .ref (ad 4), .ref (ad 5), .ref (ad 6), .ref (ad 7), .ref (ad 8), .ref (ad 9), .ref (ad 10), .ref (ad 11), .int (σ.1 2), .ref (ad 12), .ref (ad 13), .int (σ.1 3), .ref (ad 14), .ref (ad 15), .ref (ad 16), .ref (ad 17), .ref (ad 18), .ref (ad 19), .ref (ad 20), .ref (ad 21), .int (σ.1 4), .ref (ad 22), .ref (ad 23), .ref (ad 24), .ref (ad 25), .ref (ad 26), .ref (ad 27), .ref (ad 28), .ref (ad 29), .ref (ad 30), .ref (ad 31), .int (σ.1 5), .int (σ.1 6), .int (σ.1 7), .ref (ad 32), .ref (ad 33), .int (σ.1 8), .int (σ.1 9), .int (σ.1 10), .int (σ.1 11), .ref (ad 34), .ref (ad 35), .ref (ad 36), .int (σ.1 12), .int (σ.1 13), .int (σ.1 14), .ref (ad 37), .int (σ.1 15), .int (σ.1 16), .ref (ad 38), .int (σ.1 17), .ref (ad 39), .ref (ad 40), .ref (ad 41), .int (σ.1 18), .ref (ad 42), .ref (ad 43), .ref (ad 44), .ref (ad 45), .ref (ad 46), .ref (ad 47), .ref (ad 48), .ref (ad 49), .ref (ad 50), .ref (ad 51), .int (σ.1 19), .int (σ.1 20), .ref (ad 52), .ref (ad 53), .ref (ad 54), .ref (ad 55)] : List Value).set 41 (.int v))) = ml ad cs (sI σ 8 v) := rfl
theorem mu_WayLeavesModel_token {ad : Nat → Nat} {cs : Nat → ClassId} {σ : St} (v : Int32) : (ml ad cs σ).set 0 (ad 0, .inr (12, ([.int (σ.1 0), .int (σ.1 1), .ref (ad 1), .ref (ad 2), .ref (ad 3), .ref (ad 4), .ref (ad 5), .ref (ad 6), .ref (ad 7), .ref (ad 8), .ref (ad 9), .ref (ad 10), .ref (ad 11), .int (σ.1 2), .ref (ad 12), .ref (ad 13), .int (σ.1 3), .ref (ad 14), .ref (ad 15), .ref (ad 16), .ref (ad 17), .ref (ad 18), .ref (ad 19), .ref (ad 20), .ref (ad 21), .int (σ.1 4), .ref (ad 22), .ref (ad 23), .ref (ad 24), .ref (ad 25), .ref (ad 26), .ref (ad 27), .ref (ad 28), .ref (ad 29), .ref (ad 30), .ref (ad 31), .int (σ.1 5), .int (σ.1 6), .int (σ.1 7), .ref (ad 32), .ref (ad 33), .int (σ.1 8), .int (σ.1 9), .int (σ.1 10), .int (σ.1 11), .ref (ad 34), .ref (ad 35), .ref (ad 36), .int (σ.1 12), .int (σ.1 13), .int (σ.1 14), .ref (ad 37), .int (σ.1 15), .int (σ.1 16), .ref (ad 38), .int (σ.1 17), .ref (ad 39), .ref (ad 40), .ref (ad 41), .int (σ.1 18), .ref (ad 42), .ref (ad 43), .ref (ad 44), .ref (ad 45), .ref (ad 46), .ref (ad 47), .ref (ad 48), .ref (ad 49), .ref (ad 50), .ref (ad 51), .int (σ.1 19), .int (σ.1 20), .ref (ad 52), .ref (ad 53), .ref (ad 54), .ref (ad 55)] : List Value).set 42 (.int v))) = ml ad cs (sI σ 9 v) := rfl
theorem mu_WayLeavesModel_worth {ad : Nat → Nat} {cs : Nat → ClassId} {σ : St} (v : Int32) : (ml ad cs σ).set 0 (ad 0, .inr (12, ([.int (σ.1 0), .int (σ.1 1), .ref (ad 1), .ref (ad 2), .ref (ad 3), .ref (ad 4), .ref (ad 5), .ref (ad 6), .ref (ad 7), .ref (ad 8), .ref (ad 9), .ref (ad 10), .ref (ad 11), .int (σ.1 2), .ref (ad 12), .ref (ad 13), .int (σ.1 3), .ref (ad 14), .ref (ad 15), .ref (ad 16), .ref (ad 17), .ref (ad 18), .ref (ad 19), .ref (ad 20), .ref (ad 21), .int (σ.1 4), .ref (ad 22), .ref (ad 23), .ref (ad 24), .ref (ad 25), .ref (ad 26), .ref (ad 27), .ref (ad 28), .ref (ad 29), .ref (ad 30), .ref (ad 31), .int (σ.1 5), .int (σ.1 6), .int (σ.1 7), .ref (ad 32), .ref (ad 33), .int (σ.1 8), .int (σ.1 9), .int (σ.1 10), .int (σ.1 11), .ref (ad 34), .ref (ad 35), .ref (ad 36), .int (σ.1 12), .int (σ.1 13), .int (σ.1 14), .ref (ad 37), .int (σ.1 15), .int (σ.1 16), .ref (ad 38), .int (σ.1 17), .ref (ad 39), .ref (ad 40), .ref (ad 41), .int (σ.1 18), .ref (ad 42), .ref (ad 43), .ref (ad 44), .ref (ad 45), .ref (ad 46), .ref (ad 47), .ref (ad 48), .ref (ad 49), .ref (ad 50), .ref (ad 51), .int (σ.1 19), .int (σ.1 20), .ref (ad 52), .ref (ad 53), .ref (ad 54), .ref (ad 55)] : List Value).set 43 (.int v))) = ml ad cs (sI σ 10 v) := rfl
theorem mu_WayLeavesModel_place {ad : Nat → Nat} {cs : Nat → ClassId} {σ : St} (v : Int32) : (ml ad cs σ).set 0 (ad 0, .inr (12, ([.int (σ.1 0), .int (σ.1 1), .ref (ad 1), .ref (ad 2), .ref (ad 3), .ref (ad 4), .ref (ad 5), .ref (ad 6), .ref (ad 7), .ref (ad 8), .ref (ad 9), .ref (ad 10), .ref (ad 11), .int (σ.1 2), .ref (ad 12), .ref (ad 13), .int (σ.1 3), .ref (ad 14), .ref (ad 15), .ref (ad 16), .ref (ad 17), .ref (ad 18), .ref (ad 19), .ref (ad 20), .ref (ad 21), .int (σ.1 4), .ref (ad 22), .ref (ad 23), .ref (ad 24), .ref (ad 25), .ref (ad 26), .ref (ad 27), .ref (ad 28), .ref (ad 29), .ref (ad 30), .ref (ad 31), .int (σ.1 5), .int (σ.1 6), .int (σ.1 7), .ref (ad 32), .ref (ad 33), .int (σ.1 8), .int (σ.1 9), .int (σ.1 10), .int (σ.1 11), .ref (ad 34), .ref (ad 35), .ref (ad 36), .int (σ.1 12), .int (σ.1 13), .int (σ.1 14), .ref (ad 37), .int (σ.1 15), .int (σ.1 16), .ref (ad 38), .int (σ.1 17), .ref (ad 39), .ref (ad 40), .ref (ad 41), .int (σ.1 18), .ref (ad 42), .ref (ad 43), .ref (ad 44), .ref (ad 45), .ref (ad 46), .ref (ad 47), .ref (ad 48), .ref (ad 49), .ref (ad 50), .ref (ad 51), .int (σ.1 19), .int (σ.1 20), .ref (ad 52), .ref (ad 53), .ref (ad 54), .ref (ad 55)] : List Value).set 44 (.int v))) = ml ad cs (sI σ 11 v) := rfl
theorem mu_WayLeavesModel_waiting {ad : Nat → Nat} {cs : Nat → ClassId} {σ : St} (v : Int32) : (ml ad cs σ).set 0 (ad 0, .inr (12, ([.int (σ.1 0), .int (σ.1 1), .ref (ad 1), .ref (ad 2), .ref (ad 3), .ref (ad 4), .ref (ad 5), .ref (ad 6), .ref (ad 7), .ref (ad 8), .ref (ad 9), .ref (ad 10), .ref (ad 11), .int (σ.1 2), .ref (ad 12), .ref (ad 13), .int (σ.1 3), .ref (ad 14), .ref (ad 15), .ref (ad 16), .ref (ad 17), .ref (ad 18), .ref (ad 19), .ref (ad 20), .ref (ad 21), .int (σ.1 4), .ref (ad 22), .ref (ad 23), .ref (ad 24), .ref (ad 25), .ref (ad 26), .ref (ad 27), .ref (ad 28), .ref (ad 29), .ref (ad 30), .ref (ad 31), .int (σ.1 5), .int (σ.1 6), .int (σ.1 7), .ref (ad 32), .ref (ad 33), .int (σ.1 8), .int (σ.1 9), .int (σ.1 10), .int (σ.1 11), .ref (ad 34), .ref (ad 35), .ref (ad 36), .int (σ.1 12), .int (σ.1 13), .int (σ.1 14), .ref (ad 37), .int (σ.1 15), .int (σ.1 16), .ref (ad 38), .int (σ.1 17), .ref (ad 39), .ref (ad 40), .ref (ad 41), .int (σ.1 18), .ref (ad 42), .ref (ad 43), .ref (ad 44), .ref (ad 45), .ref (ad 46), .ref (ad 47), .ref (ad 48), .ref (ad 49), .ref (ad 50), .ref (ad 51), .int (σ.1 19), .int (σ.1 20), .ref (ad 52), .ref (ad 53), .ref (ad 54), .ref (ad 55)] : List Value).set 48 (.int v))) = ml ad cs (sI σ 12 v) := rfl
theorem mu_WayLeavesModel_open {ad : Nat → Nat} {cs : Nat → ClassId} {σ : St} (v : Int32) : (ml ad cs σ).set 0 (ad 0, .inr (12, ([.int (σ.1 0), .int (σ.1 1), .ref (ad 1), .ref (ad 2), .ref (ad 3), .ref (ad 4), .ref (ad 5), .ref (ad 6), .ref (ad 7), .ref (ad 8), .ref (ad 9), .ref (ad 10), .ref (ad 11), .int (σ.1 2), .ref (ad 12), .ref (ad 13), .int (σ.1 3), .ref (ad 14), .ref (ad 15), .ref (ad 16), .ref (ad 17), .ref (ad 18), .ref (ad 19), .ref (ad 20), .ref (ad 21), .int (σ.1 4), .ref (ad 22), .ref (ad 23), .ref (ad 24), .ref (ad 25), .ref (ad 26), .ref (ad 27), .ref (ad 28), .ref (ad 29), .ref (ad 30), .ref (ad 31), .int (σ.1 5), .int (σ.1 6), .int (σ.1 7), .ref (ad 32), .ref (ad 33), .int (σ.1 8), .int (σ.1 9), .int (σ.1 10), .int (σ.1 11), .ref (ad 34), .ref (ad 35), .ref (ad 36), .int (σ.1 12), .int (σ.1 13), .int (σ.1 14), .ref (ad 37), .int (σ.1 15), .int (σ.1 16), .ref (ad 38), .int (σ.1 17), .ref (ad 39), .ref (ad 40), .ref (ad 41), .int (σ.1 18), .ref (ad 42), .ref (ad 43), .ref (ad 44), .ref (ad 45), .ref (ad 46), .ref (ad 47), .ref (ad 48), .ref (ad 49), .ref (ad 50), .ref (ad 51), .int (σ.1 19), .int (σ.1 20), .ref (ad 52), .ref (ad 53), .ref (ad 54), .ref (ad 55)] : List Value).set 49 (.int v))) = ml ad cs (sI σ 13 v) := rfl
theorem mu_WayLeavesModel_depth {ad : Nat → Nat} {cs : Nat → ClassId} {σ : St} (v : Int32) : (ml ad cs σ).set 0 (ad 0, .inr (12, ([.int (σ.1 0), .int (σ.1 1), .ref (ad 1), .ref (ad 2), .ref (ad 3), .ref (ad 4), .ref (ad 5), .ref (ad 6), .ref (ad 7), .ref (ad 8), .ref (ad 9), .ref (ad 10), .ref (ad 11), .int (σ.1 2), .ref (ad 12), .ref (ad 13), .int (σ.1 3), .ref (ad 14), .ref (ad 15), .ref (ad 16), .ref (ad 17), .ref (ad 18), .ref (ad 19), .ref (ad 20), .ref (ad 21), .int (σ.1 4), .ref (ad 22), .ref (ad 23), .ref (ad 24), .ref (ad 25), .ref (ad 26), .ref (ad 27), .ref (ad 28), .ref (ad 29), .ref (ad 30), .ref (ad 31), .int (σ.1 5), .int (σ.1 6), .int (σ.1 7), .ref (ad 32), .ref (ad 33), .int (σ.1 8), .int (σ.1 9), .int (σ.1 10), .int (σ.1 11), .ref (ad 34), .ref (ad 35), .ref (ad 36), .int (σ.1 12), .int (σ.1 13), .int (σ.1 14), .ref (ad 37), .int (σ.1 15), .int (σ.1 16), .ref (ad 38), .int (σ.1 17), .ref (ad 39), .ref (ad 40), .ref (ad 41), .int (σ.1 18), .ref (ad 42), .ref (ad 43), .ref (ad 44), .ref (ad 45), .ref (ad 46), .ref (ad 47), .ref (ad 48), .ref (ad 49), .ref (ad 50), .ref (ad 51), .int (σ.1 19), .int (σ.1 20), .ref (ad 52), .ref (ad 53), .ref (ad 54), .ref (ad 55)] : List Value).set 50 (.int v))) = ml ad cs (sI σ 14 v) := rfl
theorem mu_WayLeavesModel_codeAt {ad : Nat → Nat} {cs : Nat → ClassId} {σ : St} (v : Int32) : (ml ad cs σ).set 0 (ad 0, .inr (12, ([.int (σ.1 0), .int (σ.1 1), .ref (ad 1), .ref (ad 2), .ref (ad 3), .ref (ad 4), .ref (ad 5), .ref (ad 6), .ref (ad 7), .ref (ad 8), .ref (ad 9), .ref (ad 10), .ref (ad 11), .int (σ.1 2), .ref (ad 12), .ref (ad 13), .int (σ.1 3), .ref (ad 14), .ref (ad 15), .ref (ad 16), .ref (ad 17), .ref (ad 18), .ref (ad 19), .ref (ad 20), .ref (ad 21), .int (σ.1 4), .ref (ad 22), .ref (ad 23), .ref (ad 24), .ref (ad 25), .ref (ad 26), .ref (ad 27), .ref (ad 28), .ref (ad 29), .ref (ad 30), .ref (ad 31), .int (σ.1 5), .int (σ.1 6), .int (σ.1 7), .ref (ad 32), .ref (ad 33), .int (σ.1 8), .int (σ.1 9), .int (σ.1 10), .int (σ.1 11), .ref (ad 34), .ref (ad 35), .ref (ad 36), .int (σ.1 12), .int (σ.1 13), .int (σ.1 14), .ref (ad 37), .int (σ.1 15), .int (σ.1 16), .ref (ad 38), .int (σ.1 17), .ref (ad 39), .ref (ad 40), .ref (ad 41), .int (σ.1 18), .ref (ad 42), .ref (ad 43), .ref (ad 44), .ref (ad 45), .ref (ad 46), .ref (ad 47), .ref (ad 48), .ref (ad 49), .ref (ad 50), .ref (ad 51), .int (σ.1 19), .int (σ.1 20), .ref (ad 52), .ref (ad 53), .ref (ad 54), .ref (ad 55)] : List Value).set 52 (.int v))) = ml ad cs (sI σ 15 v) := rfl
theorem mu_WayLeavesModel_made {ad : Nat → Nat} {cs : Nat → ClassId} {σ : St} (v : Int32) : (ml ad cs σ).set 0 (ad 0, .inr (12, ([.int (σ.1 0), .int (σ.1 1), .ref (ad 1), .ref (ad 2), .ref (ad 3), .ref (ad 4), .ref (ad 5), .ref (ad 6), .ref (ad 7), .ref (ad 8), .ref (ad 9), .ref (ad 10), .ref (ad 11), .int (σ.1 2), .ref (ad 12), .ref (ad 13), .int (σ.1 3), .ref (ad 14), .ref (ad 15), .ref (ad 16), .ref (ad 17), .ref (ad 18), .ref (ad 19), .ref (ad 20), .ref (ad 21), .int (σ.1 4), .ref (ad 22), .ref (ad 23), .ref (ad 24), .ref (ad 25), .ref (ad 26), .ref (ad 27), .ref (ad 28), .ref (ad 29), .ref (ad 30), .ref (ad 31), .int (σ.1 5), .int (σ.1 6), .int (σ.1 7), .ref (ad 32), .ref (ad 33), .int (σ.1 8), .int (σ.1 9), .int (σ.1 10), .int (σ.1 11), .ref (ad 34), .ref (ad 35), .ref (ad 36), .int (σ.1 12), .int (σ.1 13), .int (σ.1 14), .ref (ad 37), .int (σ.1 15), .int (σ.1 16), .ref (ad 38), .int (σ.1 17), .ref (ad 39), .ref (ad 40), .ref (ad 41), .int (σ.1 18), .ref (ad 42), .ref (ad 43), .ref (ad 44), .ref (ad 45), .ref (ad 46), .ref (ad 47), .ref (ad 48), .ref (ad 49), .ref (ad 50), .ref (ad 51), .int (σ.1 19), .int (σ.1 20), .ref (ad 52), .ref (ad 53), .ref (ad 54), .ref (ad 55)] : List Value).set 53 (.int v))) = ml ad cs (sI σ 16 v) := rfl
theorem mu_WayLeavesModel_claims {ad : Nat → Nat} {cs : Nat → ClassId} {σ : St} (v : Int32) : (ml ad cs σ).set 0 (ad 0, .inr (12, ([.int (σ.1 0), .int (σ.1 1), .ref (ad 1), .ref (ad 2), .ref (ad 3), .ref (ad 4), .ref (ad 5), .ref (ad 6), .ref (ad 7), .ref (ad 8), .ref (ad 9), .ref (ad 10), .ref (ad 11), .int (σ.1 2), .ref (ad 12), .ref (ad 13), .int (σ.1 3), .ref (ad 14), .ref (ad 15), .ref (ad 16), .ref (ad 17), .ref (ad 18), .ref (ad 19), .ref (ad 20), .ref (ad 21), .int (σ.1 4), .ref (ad 22), .ref (ad 23), .ref (ad 24), .ref (ad 25), .ref (ad 26), .ref (ad 27), .ref (ad 28), .ref (ad 29), .ref (ad 30), .ref (ad 31), .int (σ.1 5), .int (σ.1 6), .int (σ.1 7), .ref (ad 32), .ref (ad 33), .int (σ.1 8), .int (σ.1 9), .int (σ.1 10), .int (σ.1 11), .ref (ad 34), .ref (ad 35), .ref (ad 36), .int (σ.1 12), .int (σ.1 13), .int (σ.1 14), .ref (ad 37), .int (σ.1 15), .int (σ.1 16), .ref (ad 38), .int (σ.1 17), .ref (ad 39), .ref (ad 40), .ref (ad 41), .int (σ.1 18), .ref (ad 42), .ref (ad 43), .ref (ad 44), .ref (ad 45), .ref (ad 46), .ref (ad 47), .ref (ad 48), .ref (ad 49), .ref (ad 50), .ref (ad 51), .int (σ.1 19), .int (σ.1 20), .ref (ad 52), .ref (ad 53), .ref (ad 54), .ref (ad 55)] : List Value).set 55 (.int v))) = ml ad cs (sI σ 17 v) := rfl
theorem mu_WayLeavesModel_looks {ad : Nat → Nat} {cs : Nat → ClassId} {σ : St} (v : Int32) : (ml ad cs σ).set 0 (ad 0, .inr (12, ([.int (σ.1 0), .int (σ.1 1), .ref (ad 1), .ref (ad 2), .ref (ad 3), .ref (ad 4), .ref (ad 5), .ref (ad 6), .ref (ad 7), .ref (ad 8), .ref (ad 9), .ref (ad 10), .ref (ad 11), .int (σ.1 2), .ref (ad 12), .ref (ad 13), .int (σ.1 3), .ref (ad 14), .ref (ad 15), .ref (ad 16), .ref (ad 17), .ref (ad 18), .ref (ad 19), .ref (ad 20), .ref (ad 21), .int (σ.1 4), .ref (ad 22), .ref (ad 23), .ref (ad 24), .ref (ad 25), .ref (ad 26), .ref (ad 27), .ref (ad 28), .ref (ad 29), .ref (ad 30), .ref (ad 31), .int (σ.1 5), .int (σ.1 6), .int (σ.1 7), .ref (ad 32), .ref (ad 33), .int (σ.1 8), .int (σ.1 9), .int (σ.1 10), .int (σ.1 11), .ref (ad 34), .ref (ad 35), .ref (ad 36), .int (σ.1 12), .int (σ.1 13), .int (σ.1 14), .ref (ad 37), .int (σ.1 15), .int (σ.1 16), .ref (ad 38), .int (σ.1 17), .ref (ad 39), .ref (ad 40), .ref (ad 41), .int (σ.1 18), .ref (ad 42), .ref (ad 43), .ref (ad 44), .ref (ad 45), .ref (ad 46), .ref (ad 47), .ref (ad 48), .ref (ad 49), .ref (ad 50), .ref (ad 51), .int (σ.1 19), .int (σ.1 20), .ref (ad 52), .ref (ad 53), .ref (ad 54), .ref (ad 55)] : List Value).set 59 (.int v))) = ml ad cs (sI σ 18 v) := rfl
theorem mu_WayLeavesModel_lateBest {ad : Nat → Nat} {cs : Nat → ClassId} {σ : St} (v : Int32) : (ml ad cs σ).set 0 (ad 0, .inr (12, ([.int (σ.1 0), .int (σ.1 1), .ref (ad 1), .ref (ad 2), .ref (ad 3), .ref (ad 4), .ref (ad 5), .ref (ad 6), .ref (ad 7), .ref (ad 8), .ref (ad 9), .ref (ad 10), .ref (ad 11), .int (σ.1 2), .ref (ad 12), .ref (ad 13), .int (σ.1 3), .ref (ad 14), .ref (ad 15), .ref (ad 16), .ref (ad 17), .ref (ad 18), .ref (ad 19), .ref (ad 20), .ref (ad 21), .int (σ.1 4), .ref (ad 22), .ref (ad 23), .ref (ad 24), .ref (ad 25), .ref (ad 26), .ref (ad 27), .ref (ad 28), .ref (ad 29), .ref (ad 30), .ref (ad 31), .int (σ.1 5), .int (σ.1 6), .int (σ.1 7), .ref (ad 32), .ref (ad 33), .int (σ.1 8), .int (σ.1 9), .int (σ.1 10), .int (σ.1 11), .ref (ad 34), .ref (ad 35), .ref (ad 36), .int (σ.1 12), .int (σ.1 13), .int (σ.1 14), .ref (ad 37), .int (σ.1 15), .int (σ.1 16), .ref (ad 38), .int (σ.1 17), .ref (ad 39), .ref (ad 40), .ref (ad 41), .int (σ.1 18), .ref (ad 42), .ref (ad 43), .ref (ad 44), .ref (ad 45), .ref (ad 46), .ref (ad 47), .ref (ad 48), .ref (ad 49), .ref (ad 50), .ref (ad 51), .int (σ.1 19), .int (σ.1 20), .ref (ad 52), .ref (ad 53), .ref (ad 54), .ref (ad 55)] : List Value).set 70 (.int v))) = ml ad cs (sI σ 19 v) := rfl
theorem mu_WayLeavesModel_sumBest {ad : Nat → Nat} {cs : Nat → ClassId} {σ : St} (v : Int32) : (ml ad cs σ).set 0 (ad 0, .inr (12, ([.int (σ.1 0), .int (σ.1 1), .ref (ad 1), .ref (ad 2), .ref (ad 3), .ref (ad 4), .ref (ad 5), .ref (ad 6), .ref (ad 7), .ref (ad 8), .ref (ad 9), .ref (ad 10), .ref (ad 11), .int (σ.1 2), .ref (ad 12), .ref (ad 13), .int (σ.1 3), .ref (ad 14), .ref (ad 15), .ref (ad 16), .ref (ad 17), .ref (ad 18), .ref (ad 19), .ref (ad 20), .ref (ad 21), .int (σ.1 4), .ref (ad 22), .ref (ad 23), .ref (ad 24), .ref (ad 25), .ref (ad 26), .ref (ad 27), .ref (ad 28), .ref (ad 29), .ref (ad 30), .ref (ad 31), .int (σ.1 5), .int (σ.1 6), .int (σ.1 7), .ref (ad 32), .ref (ad 33), .int (σ.1 8), .int (σ.1 9), .int (σ.1 10), .int (σ.1 11), .ref (ad 34), .ref (ad 35), .ref (ad 36), .int (σ.1 12), .int (σ.1 13), .int (σ.1 14), .ref (ad 37), .int (σ.1 15), .int (σ.1 16), .ref (ad 38), .int (σ.1 17), .ref (ad 39), .ref (ad 40), .ref (ad 41), .int (σ.1 18), .ref (ad 42), .ref (ad 43), .ref (ad 44), .ref (ad 45), .ref (ad 46), .ref (ad 47), .ref (ad 48), .ref (ad 49), .ref (ad 50), .ref (ad 51), .int (σ.1 19), .int (σ.1 20), .ref (ad 52), .ref (ad 53), .ref (ad 54), .ref (ad 55)] : List Value).set 71 (.int v))) = ml ad cs (sI σ 20 v) := rfl
