/-! what the tables say of the program, by places -/
def gw : List Cond := lw_tbl.filter goodWord
def nw_ : List Cond := [.fieldLinkNest "LoopBoard$Moves" 92 "LoopBoard" "SIDES" "[I" "LoopBoard", .methodLinkNest "LoopBoard$Front" 55 ⟨"LoopBoard", "isTile", "(I)Z"⟩ "LoopBoard", .fieldLinkNest "LoopBoard$Front" 58 "LoopBoard" "SIDES" "[I" "LoopBoard", .methodLinkNest "LoopBoard$Board" 57 ⟨"LoopBoard", "isTile", "(I)Z"⟩ "LoopBoard", .methodLinkNest "LoopBoard$Sheet" 33 ⟨"LoopBoard", "isTile", "(I)Z"⟩ "LoopBoard", .fieldLinkNest "LoopBoard$Sheet" 67 "LoopBoard" "LAST_SIDE" "[I" "LoopBoard", .fieldLinkNest "LoopBoard$Sheet" 88 "LoopBoard" "OTHER_SIDE" "[I" "LoopBoard"]
def nwp : List Nat := [366, 372, 375, 468, 540, 603, 635]
def mw : List (Nat × Nat × Nat × Nat) := [(73, 72, 52, 52), (260, 259, 52, 52), (96, 95, 52, 52), (78, 76, 77, 52), (90, 89, 0, 52), (93, 92, 52, 52), (274, 272, 273, 52), (286, 284, 285, 52), (338, 336, 337, 52), (342, 340, 341, 52), (351, 349, 350, 52), (297, 295, 296, 52), (82, 80, 81, 52), (86, 84, 85, 52), (282, 280, 281, 52), (305, 303, 304, 52), (467, 465, 466, 52), (616, 614, 615, 52), (624, 622, 623, 52), (128, 127, 53, 53), (416, 415, 53, 53), (133, 131, 132, 53), (426, 424, 425, 53), (137, 135, 136, 53), (407, 405, 406, 53), (359, 358, 4, 53), (355, 354, 3, 53), (383, 382, 7, 53), (395, 394, 10, 53), (364, 363, 5, 53), (564, 562, 563, 53), (334, 332, 333, 53), (346, 344, 345, 53), (371, 369, 370, 53), (379, 378, 6, 53), (403, 402, 12, 53), (399, 398, 11, 53), (387, 386, 8, 53), (391, 390, 9, 53), (174, 173, 56, 56), (318, 316, 317, 56), (321, 320, 56, 56), (329, 328, 2, 56), (422, 421, 13, 56), (430, 429, 14, 56), (455, 453, 454, 56), (463, 462, 19, 56), (481, 479, 480, 56), (485, 483, 484, 56), (459, 457, 458, 56), (473, 471, 472, 56), (149, 148, 54, 54), (265, 263, 264, 54), (534, 532, 533, 54), (539, 537, 538, 54), (556, 554, 555, 54), (552, 550, 551, 54), (571, 569, 570, 54), (602, 600, 601, 54), (648, 646, 647, 54), (653, 651, 652, 54), (608, 606, 607, 54), (620, 619, 54, 54), (612, 611, 25, 54), (634, 633, 27, 54), (630, 629, 26, 54), (644, 642, 643, 54), (212, 211, 55, 55), (217, 215, 216, 55), (290, 288, 289, 55), (493, 491, 492, 55), (313, 311, 312, 55), (437, 436, 15, 55), (451, 450, 18, 55), (477, 476, 20, 55), (447, 446, 17, 55), (443, 442, 16, 55), (489, 488, 21, 55), (501, 500, 23, 55), (497, 496, 22, 55), (519, 517, 518, 55), (523, 522, 24, 55), (526, 525, 55, 55), (584, 582, 583, 55), (593, 591, 592, 55), (65, 64, 51, 51), (257, 255, 256, 51), (270, 268, 269, 51), (278, 277, 1, 51), (301, 299, 300, 51), (309, 307, 308, 51), (505, 503, 504, 51), (509, 507, 508, 51), (513, 511, 512, 51), (530, 528, 529, 51), (544, 542, 543, 51), (548, 546, 547, 51), (575, 573, 574, 51), (580, 578, 579, 51), (589, 587, 588, 51), (598, 596, 597, 51), (640, 638, 639, 51), (659, 657, 658, 51), (374, 373, 51, 51), (666, 665, 57, 57), (737, 735, 736, 57), (749, 748, 29, 57), (745, 744, 28, 57), (741, 739, 740, 57), (753, 751, 752, 57), (773, 772, 33, 57), (797, 796, 39, 57), (765, 764, 31, 57), (793, 792, 38, 57), (781, 780, 35, 57), (777, 776, 34, 57), (785, 784, 36, 57), (769, 768, 32, 57), (789, 788, 37, 57), (801, 800, 40, 57), (761, 760, 30, 57), (806, 805, 41, 57), (810, 809, 42, 57), (757, 755, 756, 57), (814, 812, 813, 57), (818, 816, 817, 57), (822, 820, 821, 57), (827, 825, 826, 57), (831, 829, 830, 57), (835, 833, 834, 57), (843, 842, 43, 57), (839, 837, 838, 57), (848, 846, 847, 57), (852, 851, 44, 57), (856, 854, 855, 57), (872, 871, 47, 57), (876, 875, 48, 57), (868, 867, 46, 57), (864, 863, 45, 57), (880, 879, 49, 57), (860, 858, 859, 57), (884, 882, 883, 57), (888, 886, 887, 57), (410, 409, 59, 59)]
def vc : Nat → vw_C
  | 0 => (RX0, TX0, 6)
  | 1 => (RX1, TX1, 2)
  | 2 => (RX2, TX2, 11)
  | 3 => (RX3, TX3, 5)
  | 4 => (RX4, TX4, 8)
  | 5 => (RX5, TX5, 3)
  | _ => (RX6, TX6, 21)
def tyF : Nat → Nat → FieldType
  | 0 => tyX0
  | 1 => tyX1
  | 2 => tyX2
  | 3 => tyX3
  | 4 => tyX4
  | 5 => tyX5
  | _ => tyX6
def cip : List (Nat × Nat) := [(70, 52), (125, 53), (171, 56), (146, 54), (169, 55), (62, 51), (663, 57)]
def lyp : List (List Nat) := [[110, 112, 114, 116, 118, 120], [140, 142], [187, 189, 191, 193, 195, 197, 199, 201, 203, 205, 207], [156, 158, 160, 162, 164], [226, 228, 230, 232, 234, 236, 238, 240], [247, 249, 251], [691, 693, 695, 697, 699, 701, 703, 705, 707, 709, 711, 713, 715, 717, 719, 721, 723, 725, 727, 729, 731]]
def acp : List Nat := [123, 243, 167]
def stp : List Nat := [367, 636, 604, 418]
def stC : Nat → String
  | 3 => RX1
  | _ => RX5
def stN : Nat → String
  | 0 => "SIDES"
  | 1 => "OTHER_SIDE"
  | 2 => "LAST_SIDE"
  | _ => "JOININGS"
def il : Instr → Nat
  | .bipush _ => 2
  | .sipush _ => 3
  | .ldc _ => 2
  | .ldc_w _ => 3
  | .ldc2_w _ => 3
  | .iload _ => 2
  | .lload _ => 2
  | .aload _ => 2
  | .istore _ => 2
  | .lstore _ => 2
  | .astore _ => 2
  | .iinc _ _ => 3
  | .if_icmp _ _ => 3
  | .ifCond _ _ => 3
  | .goto _ => 3
  | .getstatic _ => 3
  | .getfield _ => 3
  | .putfield _ => 3
  | .new _ => 3
  | .newarray _ => 2
  | .invokevirtual _ => 3
  | .invokespecial _ => 3
  | .invokestatic _ => 3
  | .tableswitch _ _ _ _ => 0
  | _ => 1
def ckC (z : MT) (k a b : Nat) : Bool := match nth mtab a with
  | none => false
  | some y => Nat.ble (mF y + 1) (mF z) && Nat.ble (8 + (mX y + 11) + mO y) (mO z) && Nat.beq (mS y) k && Nat.blt a 144 && (if b = 1 then Nat.beq k 0 else Nat.beq b 0)
def ckI (z : MT) (pc : Nat) (ins : Instr) (a b : Nat) : Bool := match ins with
  | .getfield _ => Nat.blt b (cN a) && Nat.blt a 7
  | .putfield _ => Nat.blt b (cN a) && Nat.blt a 7 && (if ((vc a).2.1 b).2.2.2 = true then Nat.beq (mS z) 2 && Nat.beq a (mV z) else true)
  | .getstatic _ => Nat.blt a 4 && Nat.ble b 1
  | .new _ => Nat.blt a 7
  | .newarray t => Nat.blt (akind t) 13
  | .goto off => decide ((pc : Int) + off = (a : Int))
  | .if_icmp _ off => decide ((pc : Int) + off = (a : Int))
  | .ifCond _ off => decide ((pc : Int) + off = (a : Int))
  | .tableswitch d _ _ offs => decide (0 ≤ (pc : Int) + d) && offs.all (fun off => decide (0 ≤ (pc : Int) + off))
  | .invokevirtual _ => ckC z 1 a b
  | .invokespecial _ => if a = 1000 then Nat.ble 1 (mF z) && Nat.ble 20 (mO z) else ckC z 2 a b
  | .invokestatic _ => if a = 1001 ∨ a = 1002 ∨ a = 1003 then Nat.ble 1 (mF z) && Nat.ble 26 (mO z) && Nat.beq b 0 else ckC z 0 a b
  | _ => true
def ckE (z : MT) (e : AE) : Bool := decide (decode (mB z) e.1 = .ok (e.2.1, e.2.2.1)) && (Nat.beq e.2.2.1 (il e.2.1) || Nat.beq (il e.2.1) 0) && ckI z e.1 e.2.1 e.2.2.2.1 e.2.2.2.2.1
/-- the word at an instruction's hint -/
def lkA (e : AE) : Option Cond := match e.2.1 with
  | .getfield _ => nth lw_tbl e.2.2.2.2.2
  | .putfield _ => nth lw_tbl e.2.2.2.2.2
  | .getstatic _ => if e.2.2.2.2.1 = 1 then nth nw_ e.2.2.2.2.2 else nth lw_tbl e.2.2.2.2.2
  | .new _ => nth lw_tbl e.2.2.2.2.2
  | .ldc _ => nth lw_tbl e.2.2.2.2.2
  | .ldc_w _ => nth lw_tbl e.2.2.2.2.2
  | .ldc2_w _ => nth lw_tbl e.2.2.2.2.2
  | .invokevirtual _ => nth lw_tbl e.2.2.2.2.2
  | .invokespecial _ => nth lw_tbl e.2.2.2.2.2
  | .invokestatic _ => if e.2.2.2.2.1 = 1 then nth nw_ e.2.2.2.2.2 else nth lw_tbl e.2.2.2.2.2
  | _ => none
def lkM (z : MT) (i a b : Nat) : Option Cond := match nth mtab a with
  | none => none
  | some y => if b = 1 then some (.methodLinkNest (mY z).cls i (mY y) "LoopBoard") else some (.methodLink (mY z).cls i (mY y))
/-- the word that it must be -/
def lkB (z : MT) (e : AE) : Option Cond := match e.2.1 with
  | .getfield i => some (.fieldLink (mY z).cls i ((vc e.2.2.2.1).2.1 e.2.2.2.2.1).1 ((vc e.2.2.2.1).2.1 e.2.2.2.2.1).2.1 ((vc e.2.2.2.1).2.1 e.2.2.2.2.1).2.2.1)
  | .putfield i => some (.fieldLink (mY z).cls i ((vc e.2.2.2.1).2.1 e.2.2.2.2.1).1 ((vc e.2.2.2.1).2.1 e.2.2.2.2.1).2.1 ((vc e.2.2.2.1).2.1 e.2.2.2.2.1).2.2.1)
  | .getstatic i => if e.2.2.2.2.1 = 1 then some (.fieldLinkNest (mY z).cls i (stC e.2.2.2.1) (stN e.2.2.2.1) "[I" "LoopBoard") else some (.fieldLink (mY z).cls i (stC e.2.2.2.1) (stN e.2.2.2.1) "[I")
  | .new i => some (.classLink (mY z).cls i (vc e.2.2.2.1).1)
  | .ldc i => some (.constant (mY z).cls i (Int32.ofNat e.2.2.2.1))
  | .ldc_w i => some (.constant (mY z).cls i (Int32.ofNat e.2.2.2.1))
  | .ldc2_w i => some (.constantLong (mY z).cls i (Int64.ofNat e.2.2.2.1))
  | .invokevirtual i => lkM z i e.2.2.2.1 e.2.2.2.2.1
  | .invokespecial i => if e.2.2.2.1 = 1000 then some (.methodLink (mY z).cls i objectInit) else lkM z i e.2.2.2.1 e.2.2.2.2.1
  | .invokestatic i => if e.2.2.2.1 = 1001 then some (.methodLink (mY z).cls i arraycopyName) else if e.2.2.2.1 = 1002 then some (.methodLink (mY z).cls i Lib.Math.max.name) else if e.2.2.2.1 = 1003 then some (.methodLink (mY z).cls i Lib.Math.min.name) else lkM z i e.2.2.2.1 e.2.2.2.2.1
  | _ => none
def mwA (q : Nat × Nat × Nat × Nat) : List (Option Cond) := [nth lw_tbl q.1, nth lw_tbl q.2.1, nth lw_tbl q.2.2.1, nth lw_tbl q.2.2.2]
def mwB (z : MT) : List (Option Cond) := [some (.code (mY z) (mB z) (mX z) (mT z)), some (if mS z = 0 then .static (mY z) else .instanceMethod (mY z)), some (if mS z = 1 then .selects (mY z).cls (mY z) (mY z) else .initialized (mY z).cls), some (.initialized (mY z).cls)]
def ckM (z : MT) : Bool := plainName (mY z).cls && decide ((mY z).cls ≠ "java/lang/invoke/MethodHandle" ∧ (mY z).cls ≠ "java/lang/invoke/VarHandle" ∧ (parseMethodDescriptor (mY z).desc).map (fun d => d.parameters.length) = some (mP z)) && (if mS z = 2 then decide ((mY z).name = "<init>") && decide (mT z = none) && decide ((vc (mV z)).1 = (mY z).cls) else true) && (if mS z = 1 then decide ((vc (mV z)).1 = (mY z).cls) && Nat.blt (mV z) 7 else true)
