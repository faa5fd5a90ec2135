/-! ===== the worlds at first (written by gen_first.py) ===== -/
def piN : List Nat := [0, 89, 90, 7, 16, 17, 18, 19, 1, 2, 3, 4, 5, 6, 20, 25, 26, 27, 28, 29, 30, 31, 21, 22, 23, 24, 32, 43, 33, 34, 35, 36, 37, 38, 39, 40, 41, 42, 44, 45, 46, 47, 48, 49, 50, 87, 88, 83, 84, 85, 86, 79, 80, 81, 82, 75, 76, 77, 78, 71, 72, 73, 74, 67, 68, 69, 70, 63, 64, 65, 66, 59, 60, 61, 62, 55, 56, 57, 58, 51, 52, 53, 54, 14, 15, 12, 13, 10, 11, 8, 9]
def adN (h0 : Nat) (u : Nat → Nat) (k : Nat) : Nat := match piN.getD k 0 with
  | 0 => h0
  | j + 1 => u (j + 1)
def M0C : Mem := fun o f => match o, f with
  | 3, 3 => va_cpy tFirst (fun _ => 0) 0 0 4
  | 3, 8 => fun _ => -1
  | 7, 8 => fun _ => -1
  | 4, 8 => fun _ => -1
  | 11, 3 => fun _ => -1
  | 21, 1 => fun _ => 1
  | 22, 1 => fun _ => 1
  | 23, 1 => fun _ => 1
  | 24, 1 => fun _ => 1
  | _, _ => fun _ => 0
theorem nwc_0 (cs : Nat → ClassId) (h0 : Nat) (u : Nat → Nat) : (wNew cs h0 u)[0]? = some (adN h0 u 0, ent (adN h0 u) cs GC M0C 0 (0, 0, 9, 0)) := rfl
theorem nwc_1 (cs : Nat → ClassId) (h0 : Nat) (u : Nat → Nat) : (wNew cs h0 u)[89]? = some (adN h0 u 1, ent (adN h0 u) cs GC M0C 1 (0, 1, 8, 64)) := rfl
theorem nwc_2 (cs : Nat → ClassId) (h0 : Nat) (u : Nat → Nat) : (wNew cs h0 u)[90]? = some (adN h0 u 2, ent (adN h0 u) cs GC M0C 2 (0, 1, 9, 100)) := rfl
theorem nwc_4 (cs : Nat → ClassId) (h0 : Nat) (u : Nat → Nat) : (wNew cs h0 u)[16]? = some (adN h0 u 4, ent (adN h0 u) cs GC M0C 4 (1, 0, 3, 0)) := rfl
theorem nwc_5 (cs : Nat → ClassId) (h0 : Nat) (u : Nat → Nat) : (wNew cs h0 u)[17]? = some (adN h0 u 5, ent (adN h0 u) cs GC M0C 5 (1, 1, 0, 31)) := rfl
theorem nwc_6 (cs : Nat → ClassId) (h0 : Nat) (u : Nat → Nat) : (wNew cs h0 u)[18]? = some (adN h0 u 6, ent (adN h0 u) cs GC M0C 6 (2, 0, 3, 0)) := rfl
theorem nwc_7 (cs : Nat → ClassId) (h0 : Nat) (u : Nat → Nat) : (wNew cs h0 u)[19]? = some (adN h0 u 7, ent (adN h0 u) cs GC M0C 7 (2, 1, 0, 20)) := rfl
theorem nwc_8 (cs : Nat → ClassId) (h0 : Nat) (u : Nat → Nat) : (wNew cs h0 u)[1]? = some (adN h0 u 8, ent (adN h0 u) cs GC M0C 8 (3, 0, 2, 0)) := rfl
theorem nwc_9 (cs : Nat → ClassId) (h0 : Nat) (u : Nat → Nat) : (wNew cs h0 u)[2]? = some (adN h0 u 9, ent (adN h0 u) cs GC M0C 9 (3, 1, 0, 8)) := rfl
theorem nwc_10 (cs : Nat → ClassId) (h0 : Nat) (u : Nat → Nat) : (wNew cs h0 u)[3]? = some (adN h0 u 10, ent (adN h0 u) cs GC M0C 10 (3, 1, 1, 8)) := rfl
theorem nwc_11 (cs : Nat → ClassId) (h0 : Nat) (u : Nat → Nat) : (wNew cs h0 u)[4]? = some (adN h0 u 11, ent (adN h0 u) cs GC M0C 11 (3, 1, 2, 8)) := rfl
theorem nwc_12 (cs : Nat → ClassId) (h0 : Nat) (u : Nat → Nat) : (wNew cs h0 u)[5]? = some (adN h0 u 12, ent (adN h0 u) cs GC M0C 12 (3, 1, 3, 4)) := rfl
theorem nwc_13 (cs : Nat → ClassId) (h0 : Nat) (u : Nat → Nat) : (wNew cs h0 u)[6]? = some (adN h0 u 13, ent (adN h0 u) cs GC M0C 13 (3, 1, 4, 20)) := rfl
theorem nwc_14 (cs : Nat → ClassId) (h0 : Nat) (u : Nat → Nat) : (wNew cs h0 u)[20]? = some (adN h0 u 14, ent (adN h0 u) cs GC M0C 14 (4, 0, 5, 0)) := rfl
theorem nwc_15 (cs : Nat → ClassId) (h0 : Nat) (u : Nat → Nat) : (wNew cs h0 u)[25]? = some (adN h0 u 15, ent (adN h0 u) cs GC M0C 15 (4, 1, 1, 20)) := rfl
theorem nwc_16 (cs : Nat → ClassId) (h0 : Nat) (u : Nat → Nat) : (wNew cs h0 u)[26]? = some (adN h0 u 16, ent (adN h0 u) cs GC M0C 16 (4, 1, 2, 20)) := rfl
theorem nwc_17 (cs : Nat → ClassId) (h0 : Nat) (u : Nat → Nat) : (wNew cs h0 u)[27]? = some (adN h0 u 17, ent (adN h0 u) cs GC M0C 17 (4, 1, 3, 20)) := rfl
theorem nwc_18 (cs : Nat → ClassId) (h0 : Nat) (u : Nat → Nat) : (wNew cs h0 u)[28]? = some (adN h0 u 18, ent (adN h0 u) cs GC M0C 18 (4, 1, 4, 20)) := rfl
theorem nwc_19 (cs : Nat → ClassId) (h0 : Nat) (u : Nat → Nat) : (wNew cs h0 u)[29]? = some (adN h0 u 19, ent (adN h0 u) cs GC M0C 19 (4, 1, 5, 168)) := rfl
theorem nwc_20 (cs : Nat → ClassId) (h0 : Nat) (u : Nat → Nat) : (wNew cs h0 u)[30]? = some (adN h0 u 20, ent (adN h0 u) cs GC M0C 20 (4, 1, 6, 168)) := rfl
theorem nwc_21 (cs : Nat → ClassId) (h0 : Nat) (u : Nat → Nat) : (wNew cs h0 u)[31]? = some (adN h0 u 21, ent (adN h0 u) cs GC M0C 21 (4, 1, 7, 168)) := rfl
theorem nwc_22 (cs : Nat → ClassId) (h0 : Nat) (u : Nat → Nat) : (wNew cs h0 u)[21]? = some (adN h0 u 22, ent (adN h0 u) cs GC M0C 22 (5, 0, 7, 0)) := rfl
theorem nwc_23 (cs : Nat → ClassId) (h0 : Nat) (u : Nat → Nat) : (wNew cs h0 u)[22]? = some (adN h0 u 23, ent (adN h0 u) cs GC M0C 23 (5, 1, 0, 8)) := rfl
theorem nwc_24 (cs : Nat → ClassId) (h0 : Nat) (u : Nat → Nat) : (wNew cs h0 u)[23]? = some (adN h0 u 24, ent (adN h0 u) cs GC M0C 24 (5, 1, 1, 8)) := rfl
theorem nwc_25 (cs : Nat → ClassId) (h0 : Nat) (u : Nat → Nat) : (wNew cs h0 u)[24]? = some (adN h0 u 25, ent (adN h0 u) cs GC M0C 25 (5, 1, 2, 8)) := rfl
theorem nwc_26 (cs : Nat → ClassId) (h0 : Nat) (u : Nat → Nat) : (wNew cs h0 u)[32]? = some (adN h0 u 26, ent (adN h0 u) cs GC M0C 26 (6, 0, 6, 0)) := rfl
theorem nwc_27 (cs : Nat → ClassId) (h0 : Nat) (u : Nat → Nat) : (wNew cs h0 u)[43]? = some (adN h0 u 27, ent (adN h0 u) cs GC M0C 27 (6, 1, 2, 20)) := rfl
theorem nwc_28 (cs : Nat → ClassId) (h0 : Nat) (u : Nat → Nat) : (wNew cs h0 u)[33]? = some (adN h0 u 28, ent (adN h0 u) cs GC M0C 28 (7, 0, 2, 0)) := rfl
theorem nwc_29 (cs : Nat → ClassId) (h0 : Nat) (u : Nat → Nat) : (wNew cs h0 u)[34]? = some (adN h0 u 29, ent (adN h0 u) cs GC M0C 29 (7, 1, 0, 8)) := rfl
theorem nwc_30 (cs : Nat → ClassId) (h0 : Nat) (u : Nat → Nat) : (wNew cs h0 u)[35]? = some (adN h0 u 30, ent (adN h0 u) cs GC M0C 30 (7, 1, 1, 8)) := rfl
theorem nwc_31 (cs : Nat → ClassId) (h0 : Nat) (u : Nat → Nat) : (wNew cs h0 u)[36]? = some (adN h0 u 31, ent (adN h0 u) cs GC M0C 31 (7, 1, 2, 8)) := rfl
theorem nwc_32 (cs : Nat → ClassId) (h0 : Nat) (u : Nat → Nat) : (wNew cs h0 u)[37]? = some (adN h0 u 32, ent (adN h0 u) cs GC M0C 32 (7, 1, 3, 4)) := rfl
theorem nwc_33 (cs : Nat → ClassId) (h0 : Nat) (u : Nat → Nat) : (wNew cs h0 u)[38]? = some (adN h0 u 33, ent (adN h0 u) cs GC M0C 33 (7, 1, 4, 20)) := rfl
theorem nwc_34 (cs : Nat → ClassId) (h0 : Nat) (u : Nat → Nat) : (wNew cs h0 u)[39]? = some (adN h0 u 34, ent (adN h0 u) cs GC M0C 34 (8, 0, 7, 0)) := rfl
theorem nwc_35 (cs : Nat → ClassId) (h0 : Nat) (u : Nat → Nat) : (wNew cs h0 u)[40]? = some (adN h0 u 35, ent (adN h0 u) cs GC M0C 35 (8, 1, 0, 8)) := rfl
theorem nwc_36 (cs : Nat → ClassId) (h0 : Nat) (u : Nat → Nat) : (wNew cs h0 u)[41]? = some (adN h0 u 36, ent (adN h0 u) cs GC M0C 36 (8, 1, 1, 8)) := rfl
theorem nwc_37 (cs : Nat → ClassId) (h0 : Nat) (u : Nat → Nat) : (wNew cs h0 u)[42]? = some (adN h0 u 37, ent (adN h0 u) cs GC M0C 37 (8, 1, 2, 8)) := rfl
theorem nwc_38 (cs : Nat → ClassId) (h0 : Nat) (u : Nat → Nat) : (wNew cs h0 u)[44]? = some (adN h0 u 38, ent (adN h0 u) cs GC M0C 38 (9, 0, 1, 0)) := rfl
theorem nwc_39 (cs : Nat → ClassId) (h0 : Nat) (u : Nat → Nat) : (wNew cs h0 u)[45]? = some (adN h0 u 39, ent (adN h0 u) cs GC M0C 39 (9, 1, 0, 6)) := rfl
theorem nwc_40 (cs : Nat → ClassId) (h0 : Nat) (u : Nat → Nat) : (wNew cs h0 u)[46]? = some (adN h0 u 40, ent (adN h0 u) cs GC M0C 40 (10, 0, 8, 0)) := rfl
theorem nwc_41 (cs : Nat → ClassId) (h0 : Nat) (u : Nat → Nat) : (wNew cs h0 u)[47]? = some (adN h0 u 41, ent (adN h0 u) cs GC M0C 41 (10, 1, 0, 8)) := rfl
theorem nwc_42 (cs : Nat → ClassId) (h0 : Nat) (u : Nat → Nat) : (wNew cs h0 u)[48]? = some (adN h0 u 42, ent (adN h0 u) cs GC M0C 42 (10, 1, 1, 8)) := rfl
theorem nwc_43 (cs : Nat → ClassId) (h0 : Nat) (u : Nat → Nat) : (wNew cs h0 u)[49]? = some (adN h0 u 43, ent (adN h0 u) cs GC M0C 43 (11, 0, 0, 0)) := rfl
theorem nwc_45 (cs : Nat → ClassId) (h0 : Nat) (u : Nat → Nat) : (wNew cs h0 u)[87]? = some (adN h0 u 45, ent (adN h0 u) cs GC M0C 45 (11, 1, 1, 8)) := rfl
theorem nwc_46 (cs : Nat → ClassId) (h0 : Nat) (u : Nat → Nat) : (wNew cs h0 u)[88]? = some (adN h0 u 46, ent (adN h0 u) cs GC M0C 46 (11, 1, 2, 8)) := rfl
theorem nwc_47 (cs : Nat → ClassId) (h0 : Nat) (u : Nat → Nat) : (wNew cs h0 u)[83]? = some (adN h0 u 47, ent (adN h0 u) cs GC M0C 47 (12, 0, 7, 0)) := rfl
theorem nwc_48 (cs : Nat → ClassId) (h0 : Nat) (u : Nat → Nat) : (wNew cs h0 u)[84]? = some (adN h0 u 48, ent (adN h0 u) cs GC M0C 48 (12, 1, 0, 8)) := rfl
theorem nwc_49 (cs : Nat → ClassId) (h0 : Nat) (u : Nat → Nat) : (wNew cs h0 u)[85]? = some (adN h0 u 49, ent (adN h0 u) cs GC M0C 49 (12, 1, 1, 8)) := rfl
theorem nwc_50 (cs : Nat → ClassId) (h0 : Nat) (u : Nat → Nat) : (wNew cs h0 u)[86]? = some (adN h0 u 50, ent (adN h0 u) cs GC M0C 50 (12, 1, 2, 8)) := rfl
theorem nwc_51 (cs : Nat → ClassId) (h0 : Nat) (u : Nat → Nat) : (wNew cs h0 u)[79]? = some (adN h0 u 51, ent (adN h0 u) cs GC M0C 51 (13, 0, 7, 0)) := rfl
theorem nwc_52 (cs : Nat → ClassId) (h0 : Nat) (u : Nat → Nat) : (wNew cs h0 u)[80]? = some (adN h0 u 52, ent (adN h0 u) cs GC M0C 52 (13, 1, 0, 8)) := rfl
theorem nwc_53 (cs : Nat → ClassId) (h0 : Nat) (u : Nat → Nat) : (wNew cs h0 u)[81]? = some (adN h0 u 53, ent (adN h0 u) cs GC M0C 53 (13, 1, 1, 8)) := rfl
theorem nwc_54 (cs : Nat → ClassId) (h0 : Nat) (u : Nat → Nat) : (wNew cs h0 u)[82]? = some (adN h0 u 54, ent (adN h0 u) cs GC M0C 54 (13, 1, 2, 8)) := rfl
theorem nwc_55 (cs : Nat → ClassId) (h0 : Nat) (u : Nat → Nat) : (wNew cs h0 u)[75]? = some (adN h0 u 55, ent (adN h0 u) cs GC M0C 55 (14, 0, 7, 0)) := rfl
theorem nwc_56 (cs : Nat → ClassId) (h0 : Nat) (u : Nat → Nat) : (wNew cs h0 u)[76]? = some (adN h0 u 56, ent (adN h0 u) cs GC M0C 56 (14, 1, 0, 8)) := rfl
theorem nwc_57 (cs : Nat → ClassId) (h0 : Nat) (u : Nat → Nat) : (wNew cs h0 u)[77]? = some (adN h0 u 57, ent (adN h0 u) cs GC M0C 57 (14, 1, 1, 8)) := rfl
theorem nwc_58 (cs : Nat → ClassId) (h0 : Nat) (u : Nat → Nat) : (wNew cs h0 u)[78]? = some (adN h0 u 58, ent (adN h0 u) cs GC M0C 58 (14, 1, 2, 8)) := rfl
theorem nwc_59 (cs : Nat → ClassId) (h0 : Nat) (u : Nat → Nat) : (wNew cs h0 u)[71]? = some (adN h0 u 59, ent (adN h0 u) cs GC M0C 59 (15, 0, 7, 0)) := rfl
theorem nwc_60 (cs : Nat → ClassId) (h0 : Nat) (u : Nat → Nat) : (wNew cs h0 u)[72]? = some (adN h0 u 60, ent (adN h0 u) cs GC M0C 60 (15, 1, 0, 8)) := rfl
theorem nwc_61 (cs : Nat → ClassId) (h0 : Nat) (u : Nat → Nat) : (wNew cs h0 u)[73]? = some (adN h0 u 61, ent (adN h0 u) cs GC M0C 61 (15, 1, 1, 8)) := rfl
theorem nwc_62 (cs : Nat → ClassId) (h0 : Nat) (u : Nat → Nat) : (wNew cs h0 u)[74]? = some (adN h0 u 62, ent (adN h0 u) cs GC M0C 62 (15, 1, 2, 8)) := rfl
theorem nwc_63 (cs : Nat → ClassId) (h0 : Nat) (u : Nat → Nat) : (wNew cs h0 u)[67]? = some (adN h0 u 63, ent (adN h0 u) cs GC M0C 63 (16, 0, 7, 0)) := rfl
theorem nwc_64 (cs : Nat → ClassId) (h0 : Nat) (u : Nat → Nat) : (wNew cs h0 u)[68]? = some (adN h0 u 64, ent (adN h0 u) cs GC M0C 64 (16, 1, 0, 8)) := rfl
theorem nwc_65 (cs : Nat → ClassId) (h0 : Nat) (u : Nat → Nat) : (wNew cs h0 u)[69]? = some (adN h0 u 65, ent (adN h0 u) cs GC M0C 65 (16, 1, 1, 8)) := rfl
theorem nwc_66 (cs : Nat → ClassId) (h0 : Nat) (u : Nat → Nat) : (wNew cs h0 u)[70]? = some (adN h0 u 66, ent (adN h0 u) cs GC M0C 66 (16, 1, 2, 8)) := rfl
theorem nwc_67 (cs : Nat → ClassId) (h0 : Nat) (u : Nat → Nat) : (wNew cs h0 u)[63]? = some (adN h0 u 67, ent (adN h0 u) cs GC M0C 67 (17, 0, 7, 0)) := rfl
theorem nwc_68 (cs : Nat → ClassId) (h0 : Nat) (u : Nat → Nat) : (wNew cs h0 u)[64]? = some (adN h0 u 68, ent (adN h0 u) cs GC M0C 68 (17, 1, 0, 8)) := rfl
theorem nwc_69 (cs : Nat → ClassId) (h0 : Nat) (u : Nat → Nat) : (wNew cs h0 u)[65]? = some (adN h0 u 69, ent (adN h0 u) cs GC M0C 69 (17, 1, 1, 8)) := rfl
theorem nwc_70 (cs : Nat → ClassId) (h0 : Nat) (u : Nat → Nat) : (wNew cs h0 u)[66]? = some (adN h0 u 70, ent (adN h0 u) cs GC M0C 70 (17, 1, 2, 8)) := rfl
theorem nwc_71 (cs : Nat → ClassId) (h0 : Nat) (u : Nat → Nat) : (wNew cs h0 u)[59]? = some (adN h0 u 71, ent (adN h0 u) cs GC M0C 71 (18, 0, 7, 0)) := rfl
theorem nwc_72 (cs : Nat → ClassId) (h0 : Nat) (u : Nat → Nat) : (wNew cs h0 u)[60]? = some (adN h0 u 72, ent (adN h0 u) cs GC M0C 72 (18, 1, 0, 8)) := rfl
theorem nwc_73 (cs : Nat → ClassId) (h0 : Nat) (u : Nat → Nat) : (wNew cs h0 u)[61]? = some (adN h0 u 73, ent (adN h0 u) cs GC M0C 73 (18, 1, 1, 8)) := rfl
theorem nwc_74 (cs : Nat → ClassId) (h0 : Nat) (u : Nat → Nat) : (wNew cs h0 u)[62]? = some (adN h0 u 74, ent (adN h0 u) cs GC M0C 74 (18, 1, 2, 8)) := rfl
theorem nwc_75 (cs : Nat → ClassId) (h0 : Nat) (u : Nat → Nat) : (wNew cs h0 u)[55]? = some (adN h0 u 75, ent (adN h0 u) cs GC M0C 75 (19, 0, 7, 0)) := rfl
theorem nwc_76 (cs : Nat → ClassId) (h0 : Nat) (u : Nat → Nat) : (wNew cs h0 u)[56]? = some (adN h0 u 76, ent (adN h0 u) cs GC M0C 76 (19, 1, 0, 8)) := rfl
theorem nwc_77 (cs : Nat → ClassId) (h0 : Nat) (u : Nat → Nat) : (wNew cs h0 u)[57]? = some (adN h0 u 77, ent (adN h0 u) cs GC M0C 77 (19, 1, 1, 8)) := rfl
theorem nwc_78 (cs : Nat → ClassId) (h0 : Nat) (u : Nat → Nat) : (wNew cs h0 u)[58]? = some (adN h0 u 78, ent (adN h0 u) cs GC M0C 78 (19, 1, 2, 8)) := rfl
theorem nwc_79 (cs : Nat → ClassId) (h0 : Nat) (u : Nat → Nat) : (wNew cs h0 u)[51]? = some (adN h0 u 79, ent (adN h0 u) cs GC M0C 79 (20, 0, 7, 0)) := rfl
theorem nwc_80 (cs : Nat → ClassId) (h0 : Nat) (u : Nat → Nat) : (wNew cs h0 u)[52]? = some (adN h0 u 80, ent (adN h0 u) cs GC M0C 80 (20, 1, 0, 8)) := rfl
theorem nwc_81 (cs : Nat → ClassId) (h0 : Nat) (u : Nat → Nat) : (wNew cs h0 u)[53]? = some (adN h0 u 81, ent (adN h0 u) cs GC M0C 81 (20, 1, 1, 8)) := rfl
theorem nwc_82 (cs : Nat → ClassId) (h0 : Nat) (u : Nat → Nat) : (wNew cs h0 u)[54]? = some (adN h0 u 82, ent (adN h0 u) cs GC M0C 82 (20, 1, 2, 8)) := rfl
theorem nwc_83 (cs : Nat → ClassId) (h0 : Nat) (u : Nat → Nat) : (wNew cs h0 u)[14]? = some (adN h0 u 83, ent (adN h0 u) cs GC M0C 83 (21, 0, 4, 0)) := rfl
theorem nwc_84 (cs : Nat → ClassId) (h0 : Nat) (u : Nat → Nat) : (wNew cs h0 u)[15]? = some (adN h0 u 84, ent (adN h0 u) cs GC M0C 84 (21, 1, 0, 60)) := rfl
theorem nwc_85 (cs : Nat → ClassId) (h0 : Nat) (u : Nat → Nat) : (wNew cs h0 u)[12]? = some (adN h0 u 85, ent (adN h0 u) cs GC M0C 85 (22, 0, 4, 0)) := rfl
theorem nwc_86 (cs : Nat → ClassId) (h0 : Nat) (u : Nat → Nat) : (wNew cs h0 u)[13]? = some (adN h0 u 86, ent (adN h0 u) cs GC M0C 86 (22, 1, 0, 60)) := rfl
theorem nwc_87 (cs : Nat → ClassId) (h0 : Nat) (u : Nat → Nat) : (wNew cs h0 u)[10]? = some (adN h0 u 87, ent (adN h0 u) cs GC M0C 87 (23, 0, 4, 0)) := rfl
theorem nwc_88 (cs : Nat → ClassId) (h0 : Nat) (u : Nat → Nat) : (wNew cs h0 u)[11]? = some (adN h0 u 88, ent (adN h0 u) cs GC M0C 88 (23, 1, 0, 60)) := rfl
theorem nwc_89 (cs : Nat → ClassId) (h0 : Nat) (u : Nat → Nat) : (wNew cs h0 u)[8]? = some (adN h0 u 89, ent (adN h0 u) cs GC M0C 89 (24, 0, 4, 0)) := rfl
theorem nwc_90 (cs : Nat → ClassId) (h0 : Nat) (u : Nat → Nat) : (wNew cs h0 u)[9]? = some (adN h0 u 90, ent (adN h0 u) cs GC M0C 90 (24, 1, 0, 60)) := rfl
theorem nwc_3 (cs : Nat → ClassId) (h0 : Nat) (u : Nat → Nat) : (wNew cs h0 u)[7]? = some (adN h0 u 3, .inl (cs 4, 4, .inr (.inr (.inr (.inr (va_up (va_up (va_up (va_up (fun _ => none) 0 (some (u 14))) 1 (some (u 12))) 2 (some (u 10))) 3 (some (u 8)))))))) := rfl
theorem nwc_44 (cs : Nat → ClassId) (h0 : Nat) (u : Nat → Nat) : (wNew cs h0 u)[50]? = some (adN h0 u 44, .inl (cs 3, 9, .inr (.inr (.inr (.inr (va_up (va_up (va_up (va_up (va_up (va_up (va_up (va_up (va_up (fun _ => none) 0 (some (u 83))) 1 (some (u 79))) 2 (some (u 75))) 3 (some (u 71))) 4 (some (u 67))) 5 (some (u 63))) 6 (some (u 59))) 7 (some (u 55))) 8 (some (u 51)))))))) := rfl
