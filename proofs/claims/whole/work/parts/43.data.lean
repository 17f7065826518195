/-! Two memories: C holds the class, R the reference. Static places (8 to 38 the class, 39 to 115 the reference), places of the dynamic objects by role (ad role number), and the cells that correspond one to one. -/
def KT (a : Nat) : Nat × Nat := match a with
  | 8 => (11, 18)
  | 9 => (4, 7)
  | 10 => (20, 10)
  | 11 => (20, 10)
  | 12 => (20, 100)
  | 13 => (20, 100)
  | 14 => (20, 10)
  | 15 => (22, 10)
  | 16 => (24, 16)
  | 17 => (25, 4)
  | 18 => (21, 500)
  | 19 => (5, 5)
  | 20 => (8, 11)
  | 21 => (20, 24)
  | 22 => (20, 24)
  | 23 => (20, 24)
  | 24 => (20, 500)
  | 25 => (20, 501)
  | 26 => (20, 501)
  | 27 => (20, 501)
  | 28 => (27, 8)
  | 29 => (20, 7)
  | 30 => (3, 7)
  | 31 => (20, 24)
  | 32 => (23, 16)
  | 33 => (7, 5)
  | 34 => (20, 16)
  | 35 => (20, 16)
  | 36 => (23, 16)
  | 37 => (26, 24)
  | 38 => (20, 60)
  | 39 => (12, 107)
  | 40 => (20, 10)
  | 41 => (20, 10)
  | 42 => (20, 100)
  | 43 => (20, 100)
  | 44 => (20, 10)
  | 45 => (22, 10)
  | 46 => (20, 16)
  | 47 => (20, 16)
  | 48 => (20, 16)
  | 49 => (20, 16)
  | 50 => (20, 16)
  | 51 => (20, 16)
  | 52 => (23, 16)
  | 53 => (20, 64)
  | 54 => (20, 4)
  | 55 => (20, 4)
  | 56 => (20, 4)
  | 57 => (20, 4)
  | 58 => (20, 4)
  | 59 => (20, 60)
  | 60 => (20, 60)
  | 61 => (20, 60)
  | 62 => (20, 60)
  | 63 => (20, 60)
  | 64 => (20, 60)
  | 65 => (20, 60)
  | 66 => (20, 8)
  | 67 => (20, 8)
  | 68 => (20, 8)
  | 69 => (20, 200)
  | 70 => (20, 200)
  | 71 => (20, 200)
  | 72 => (20, 200)
  | 73 => (20, 200)
  | 74 => (20, 2100)
  | 75 => (20, 2100)
  | 76 => (20, 2100)
  | 77 => (20, 2100)
  | 78 => (22, 2100)
  | 79 => (21, 500)
  | 80 => (20, 100)
  | 81 => (20, 100)
  | 82 => (20, 100)
  | 83 => (20, 24)
  | 84 => (20, 24)
  | 85 => (20, 24)
  | 86 => (20, 24)
  | 87 => (20, 24)
  | 88 => (20, 24)
  | 89 => (20, 24)
  | 90 => (20, 24)
  | 91 => (20, 24)
  | 92 => (20, 1440)
  | 93 => (20, 1440)
  | 94 => (20, 1440)
  | 95 => (20, 1440)
  | 96 => (20, 2880)
  | 97 => (22, 1440)
  | 98 => (20, 1440)
  | 99 => (20, 1440)
  | 100 => (20, 1440)
  | 101 => (20, 1440)
  | 102 => (20, 1440)
  | 103 => (20, 1440)
  | 104 => (20, 1440)
  | 105 => (20, 1440)
  | 106 => (20, 1440)
  | 107 => (20, 2880)
  | 108 => (20, 2880)
  | 109 => (20, 60)
  | 110 => (23, 16)
  | 111 => (23, 16)
  | 112 => (20, 256)
  | 113 => (20, 16)
  | 114 => (20, 16)
  | 115 => (20, 60)
  | _ => (99, 0)
def RT (a k : Nat) : Option Nat := match a with
  | 8 => match k with
    | 0 => some 9
    | 1 => some 16
    | 3 => some 17
    | 7 => some 18
    | 9 => some 19
    | 10 => some 30
    | 11 => some 33
    | 12 => some 37
    | 15 => some 38
    | _ => none
  | 9 => match k with
    | 0 => some 10
    | 1 => some 11
    | 2 => some 12
    | 3 => some 13
    | 4 => some 14
    | 5 => some 15
    | _ => none
  | 19 => match k with
    | 0 => some 20
    | 1 => some 28
    | 2 => some 29
    | _ => none
  | 20 => match k with
    | 0 => some 21
    | 1 => some 22
    | 2 => some 23
    | 3 => some 24
    | 6 => some 25
    | 7 => some 26
    | 8 => some 27
    | _ => none
  | 30 => match k with
    | 0 => some 31
    | 1 => some 32
    | _ => none
  | 33 => match k with
    | 0 => some 34
    | 1 => some 35
    | 2 => some 36
    | _ => none
  | 39 => match k with
    | 3 => some 40
    | 4 => some 41
    | 5 => some 42
    | 6 => some 43
    | 7 => some 44
    | 8 => some 45
    | 10 => some 46
    | 11 => some 47
    | 12 => some 48
    | 13 => some 49
    | 14 => some 50
    | 15 => some 51
    | 16 => some 52
    | 17 => some 53
    | 25 => some 54
    | 26 => some 55
    | 27 => some 56
    | 28 => some 57
    | 29 => some 58
    | 30 => some 59
    | 31 => some 60
    | 32 => some 61
    | 33 => some 62
    | 34 => some 63
    | 35 => some 64
    | 36 => some 65
    | 38 => some 66
    | 39 => some 67
    | 40 => some 68
    | 41 => some 69
    | 42 => some 70
    | 43 => some 71
    | 44 => some 72
    | 45 => some 73
    | 47 => some 74
    | 48 => some 75
    | 49 => some 76
    | 50 => some 77
    | 51 => some 78
    | 53 => some 79
    | 66 => some 80
    | 67 => some 81
    | 68 => some 82
    | 74 => some 83
    | 75 => some 84
    | 76 => some 85
    | 77 => some 86
    | 78 => some 87
    | 79 => some 88
    | 80 => some 89
    | 81 => some 90
    | 82 => some 91
    | 83 => some 92
    | 84 => some 93
    | 85 => some 94
    | 86 => some 95
    | 87 => some 96
    | 88 => some 97
    | 89 => some 98
    | 90 => some 99
    | 91 => some 100
    | 92 => some 101
    | 93 => some 102
    | 94 => some 103
    | 95 => some 104
    | 96 => some 105
    | 97 => some 106
    | 98 => some 107
    | 99 => some 108
    | 100 => some 109
    | 101 => some 110
    | 102 => some 111
    | 103 => some 112
    | 104 => some 113
    | 105 => some 114
    | 106 => some 115
    | _ => none
  | _ => none
def SC (C : Mm) : Prop := (∀ a, 8 ≤ a → a < 39 → mK C a = KT a) ∧ (∀ a k b, a < 39 → RT a k = some b → mR C a k = some b)
def SR (R : Mm) : Prop := (∀ a, 39 ≤ a → a < 116 → mK R a = KT a) ∧ (∀ k, mR R 39 k = RT 39 k) ∧ (∀ a k, 40 ≤ a → a < 116 → mR R a k = none)
theorem SC.k8 {C : Mm} (h : SC C) : mK C 8 = (11, 18) := h.1 8 (by decide) (by decide)
theorem SC.k9 {C : Mm} (h : SC C) : mK C 9 = (4, 7) := h.1 9 (by decide) (by decide)
theorem SC.k10 {C : Mm} (h : SC C) : mK C 10 = (20, 10) := h.1 10 (by decide) (by decide)
theorem SC.k11 {C : Mm} (h : SC C) : mK C 11 = (20, 10) := h.1 11 (by decide) (by decide)
theorem SC.k12 {C : Mm} (h : SC C) : mK C 12 = (20, 100) := h.1 12 (by decide) (by decide)
theorem SC.k13 {C : Mm} (h : SC C) : mK C 13 = (20, 100) := h.1 13 (by decide) (by decide)
theorem SC.k14 {C : Mm} (h : SC C) : mK C 14 = (20, 10) := h.1 14 (by decide) (by decide)
theorem SC.k15 {C : Mm} (h : SC C) : mK C 15 = (22, 10) := h.1 15 (by decide) (by decide)
theorem SC.k16 {C : Mm} (h : SC C) : mK C 16 = (24, 16) := h.1 16 (by decide) (by decide)
theorem SC.k17 {C : Mm} (h : SC C) : mK C 17 = (25, 4) := h.1 17 (by decide) (by decide)
theorem SC.k18 {C : Mm} (h : SC C) : mK C 18 = (21, 500) := h.1 18 (by decide) (by decide)
theorem SC.k19 {C : Mm} (h : SC C) : mK C 19 = (5, 5) := h.1 19 (by decide) (by decide)
theorem SC.k20 {C : Mm} (h : SC C) : mK C 20 = (8, 11) := h.1 20 (by decide) (by decide)
theorem SC.k21 {C : Mm} (h : SC C) : mK C 21 = (20, 24) := h.1 21 (by decide) (by decide)
theorem SC.k22 {C : Mm} (h : SC C) : mK C 22 = (20, 24) := h.1 22 (by decide) (by decide)
theorem SC.k23 {C : Mm} (h : SC C) : mK C 23 = (20, 24) := h.1 23 (by decide) (by decide)
theorem SC.k24 {C : Mm} (h : SC C) : mK C 24 = (20, 500) := h.1 24 (by decide) (by decide)
theorem SC.k25 {C : Mm} (h : SC C) : mK C 25 = (20, 501) := h.1 25 (by decide) (by decide)
theorem SC.k26 {C : Mm} (h : SC C) : mK C 26 = (20, 501) := h.1 26 (by decide) (by decide)
theorem SC.k27 {C : Mm} (h : SC C) : mK C 27 = (20, 501) := h.1 27 (by decide) (by decide)
theorem SC.k28 {C : Mm} (h : SC C) : mK C 28 = (27, 8) := h.1 28 (by decide) (by decide)
theorem SC.k29 {C : Mm} (h : SC C) : mK C 29 = (20, 7) := h.1 29 (by decide) (by decide)
theorem SC.k30 {C : Mm} (h : SC C) : mK C 30 = (3, 7) := h.1 30 (by decide) (by decide)
theorem SC.k31 {C : Mm} (h : SC C) : mK C 31 = (20, 24) := h.1 31 (by decide) (by decide)
theorem SC.k32 {C : Mm} (h : SC C) : mK C 32 = (23, 16) := h.1 32 (by decide) (by decide)
theorem SC.k33 {C : Mm} (h : SC C) : mK C 33 = (7, 5) := h.1 33 (by decide) (by decide)
theorem SC.k34 {C : Mm} (h : SC C) : mK C 34 = (20, 16) := h.1 34 (by decide) (by decide)
theorem SC.k35 {C : Mm} (h : SC C) : mK C 35 = (20, 16) := h.1 35 (by decide) (by decide)
theorem SC.k36 {C : Mm} (h : SC C) : mK C 36 = (23, 16) := h.1 36 (by decide) (by decide)
theorem SC.k37 {C : Mm} (h : SC C) : mK C 37 = (26, 24) := h.1 37 (by decide) (by decide)
theorem SC.k38 {C : Mm} (h : SC C) : mK C 38 = (20, 60) := h.1 38 (by decide) (by decide)
theorem SR.k39 {R : Mm} (h : SR R) : mK R 39 = (12, 107) := h.1 39 (by decide) (by decide)
theorem SR.k40 {R : Mm} (h : SR R) : mK R 40 = (20, 10) := h.1 40 (by decide) (by decide)
theorem SR.k41 {R : Mm} (h : SR R) : mK R 41 = (20, 10) := h.1 41 (by decide) (by decide)
theorem SR.k42 {R : Mm} (h : SR R) : mK R 42 = (20, 100) := h.1 42 (by decide) (by decide)
theorem SR.k43 {R : Mm} (h : SR R) : mK R 43 = (20, 100) := h.1 43 (by decide) (by decide)
theorem SR.k44 {R : Mm} (h : SR R) : mK R 44 = (20, 10) := h.1 44 (by decide) (by decide)
theorem SR.k45 {R : Mm} (h : SR R) : mK R 45 = (22, 10) := h.1 45 (by decide) (by decide)
theorem SR.k46 {R : Mm} (h : SR R) : mK R 46 = (20, 16) := h.1 46 (by decide) (by decide)
theorem SR.k47 {R : Mm} (h : SR R) : mK R 47 = (20, 16) := h.1 47 (by decide) (by decide)
theorem SR.k48 {R : Mm} (h : SR R) : mK R 48 = (20, 16) := h.1 48 (by decide) (by decide)
theorem SR.k49 {R : Mm} (h : SR R) : mK R 49 = (20, 16) := h.1 49 (by decide) (by decide)
theorem SR.k50 {R : Mm} (h : SR R) : mK R 50 = (20, 16) := h.1 50 (by decide) (by decide)
theorem SR.k51 {R : Mm} (h : SR R) : mK R 51 = (20, 16) := h.1 51 (by decide) (by decide)
theorem SR.k52 {R : Mm} (h : SR R) : mK R 52 = (23, 16) := h.1 52 (by decide) (by decide)
theorem SR.k53 {R : Mm} (h : SR R) : mK R 53 = (20, 64) := h.1 53 (by decide) (by decide)
theorem SR.k54 {R : Mm} (h : SR R) : mK R 54 = (20, 4) := h.1 54 (by decide) (by decide)
theorem SR.k55 {R : Mm} (h : SR R) : mK R 55 = (20, 4) := h.1 55 (by decide) (by decide)
theorem SR.k56 {R : Mm} (h : SR R) : mK R 56 = (20, 4) := h.1 56 (by decide) (by decide)
theorem SR.k57 {R : Mm} (h : SR R) : mK R 57 = (20, 4) := h.1 57 (by decide) (by decide)
theorem SR.k58 {R : Mm} (h : SR R) : mK R 58 = (20, 4) := h.1 58 (by decide) (by decide)
theorem SR.k59 {R : Mm} (h : SR R) : mK R 59 = (20, 60) := h.1 59 (by decide) (by decide)
theorem SR.k60 {R : Mm} (h : SR R) : mK R 60 = (20, 60) := h.1 60 (by decide) (by decide)
theorem SR.k61 {R : Mm} (h : SR R) : mK R 61 = (20, 60) := h.1 61 (by decide) (by decide)
theorem SR.k62 {R : Mm} (h : SR R) : mK R 62 = (20, 60) := h.1 62 (by decide) (by decide)
theorem SR.k63 {R : Mm} (h : SR R) : mK R 63 = (20, 60) := h.1 63 (by decide) (by decide)
theorem SR.k64 {R : Mm} (h : SR R) : mK R 64 = (20, 60) := h.1 64 (by decide) (by decide)
theorem SR.k65 {R : Mm} (h : SR R) : mK R 65 = (20, 60) := h.1 65 (by decide) (by decide)
theorem SR.k66 {R : Mm} (h : SR R) : mK R 66 = (20, 8) := h.1 66 (by decide) (by decide)
theorem SR.k67 {R : Mm} (h : SR R) : mK R 67 = (20, 8) := h.1 67 (by decide) (by decide)
theorem SR.k68 {R : Mm} (h : SR R) : mK R 68 = (20, 8) := h.1 68 (by decide) (by decide)
theorem SR.k69 {R : Mm} (h : SR R) : mK R 69 = (20, 200) := h.1 69 (by decide) (by decide)
theorem SR.k70 {R : Mm} (h : SR R) : mK R 70 = (20, 200) := h.1 70 (by decide) (by decide)
theorem SR.k71 {R : Mm} (h : SR R) : mK R 71 = (20, 200) := h.1 71 (by decide) (by decide)
theorem SR.k72 {R : Mm} (h : SR R) : mK R 72 = (20, 200) := h.1 72 (by decide) (by decide)
theorem SR.k73 {R : Mm} (h : SR R) : mK R 73 = (20, 200) := h.1 73 (by decide) (by decide)
theorem SR.k74 {R : Mm} (h : SR R) : mK R 74 = (20, 2100) := h.1 74 (by decide) (by decide)
theorem SR.k75 {R : Mm} (h : SR R) : mK R 75 = (20, 2100) := h.1 75 (by decide) (by decide)
theorem SR.k76 {R : Mm} (h : SR R) : mK R 76 = (20, 2100) := h.1 76 (by decide) (by decide)
theorem SR.k77 {R : Mm} (h : SR R) : mK R 77 = (20, 2100) := h.1 77 (by decide) (by decide)
theorem SR.k78 {R : Mm} (h : SR R) : mK R 78 = (22, 2100) := h.1 78 (by decide) (by decide)
theorem SR.k79 {R : Mm} (h : SR R) : mK R 79 = (21, 500) := h.1 79 (by decide) (by decide)
theorem SR.k80 {R : Mm} (h : SR R) : mK R 80 = (20, 100) := h.1 80 (by decide) (by decide)
theorem SR.k81 {R : Mm} (h : SR R) : mK R 81 = (20, 100) := h.1 81 (by decide) (by decide)
theorem SR.k82 {R : Mm} (h : SR R) : mK R 82 = (20, 100) := h.1 82 (by decide) (by decide)
theorem SR.k83 {R : Mm} (h : SR R) : mK R 83 = (20, 24) := h.1 83 (by decide) (by decide)
theorem SR.k84 {R : Mm} (h : SR R) : mK R 84 = (20, 24) := h.1 84 (by decide) (by decide)
theorem SR.k85 {R : Mm} (h : SR R) : mK R 85 = (20, 24) := h.1 85 (by decide) (by decide)
theorem SR.k86 {R : Mm} (h : SR R) : mK R 86 = (20, 24) := h.1 86 (by decide) (by decide)
theorem SR.k87 {R : Mm} (h : SR R) : mK R 87 = (20, 24) := h.1 87 (by decide) (by decide)
theorem SR.k88 {R : Mm} (h : SR R) : mK R 88 = (20, 24) := h.1 88 (by decide) (by decide)
theorem SR.k89 {R : Mm} (h : SR R) : mK R 89 = (20, 24) := h.1 89 (by decide) (by decide)
theorem SR.k90 {R : Mm} (h : SR R) : mK R 90 = (20, 24) := h.1 90 (by decide) (by decide)
theorem SR.k91 {R : Mm} (h : SR R) : mK R 91 = (20, 24) := h.1 91 (by decide) (by decide)
theorem SR.k92 {R : Mm} (h : SR R) : mK R 92 = (20, 1440) := h.1 92 (by decide) (by decide)
theorem SR.k93 {R : Mm} (h : SR R) : mK R 93 = (20, 1440) := h.1 93 (by decide) (by decide)
theorem SR.k94 {R : Mm} (h : SR R) : mK R 94 = (20, 1440) := h.1 94 (by decide) (by decide)
theorem SR.k95 {R : Mm} (h : SR R) : mK R 95 = (20, 1440) := h.1 95 (by decide) (by decide)
theorem SR.k96 {R : Mm} (h : SR R) : mK R 96 = (20, 2880) := h.1 96 (by decide) (by decide)
theorem SR.k97 {R : Mm} (h : SR R) : mK R 97 = (22, 1440) := h.1 97 (by decide) (by decide)
theorem SR.k98 {R : Mm} (h : SR R) : mK R 98 = (20, 1440) := h.1 98 (by decide) (by decide)
theorem SR.k99 {R : Mm} (h : SR R) : mK R 99 = (20, 1440) := h.1 99 (by decide) (by decide)
theorem SR.k100 {R : Mm} (h : SR R) : mK R 100 = (20, 1440) := h.1 100 (by decide) (by decide)
theorem SR.k101 {R : Mm} (h : SR R) : mK R 101 = (20, 1440) := h.1 101 (by decide) (by decide)
theorem SR.k102 {R : Mm} (h : SR R) : mK R 102 = (20, 1440) := h.1 102 (by decide) (by decide)
theorem SR.k103 {R : Mm} (h : SR R) : mK R 103 = (20, 1440) := h.1 103 (by decide) (by decide)
theorem SR.k104 {R : Mm} (h : SR R) : mK R 104 = (20, 1440) := h.1 104 (by decide) (by decide)
theorem SR.k105 {R : Mm} (h : SR R) : mK R 105 = (20, 1440) := h.1 105 (by decide) (by decide)
theorem SR.k106 {R : Mm} (h : SR R) : mK R 106 = (20, 1440) := h.1 106 (by decide) (by decide)
theorem SR.k107 {R : Mm} (h : SR R) : mK R 107 = (20, 2880) := h.1 107 (by decide) (by decide)
theorem SR.k108 {R : Mm} (h : SR R) : mK R 108 = (20, 2880) := h.1 108 (by decide) (by decide)
theorem SR.k109 {R : Mm} (h : SR R) : mK R 109 = (20, 60) := h.1 109 (by decide) (by decide)
theorem SR.k110 {R : Mm} (h : SR R) : mK R 110 = (23, 16) := h.1 110 (by decide) (by decide)
theorem SR.k111 {R : Mm} (h : SR R) : mK R 111 = (23, 16) := h.1 111 (by decide) (by decide)
theorem SR.k112 {R : Mm} (h : SR R) : mK R 112 = (20, 256) := h.1 112 (by decide) (by decide)
theorem SR.k113 {R : Mm} (h : SR R) : mK R 113 = (20, 16) := h.1 113 (by decide) (by decide)
theorem SR.k114 {R : Mm} (h : SR R) : mK R 114 = (20, 16) := h.1 114 (by decide) (by decide)
theorem SR.k115 {R : Mm} (h : SR R) : mK R 115 = (20, 60) := h.1 115 (by decide) (by decide)
theorem SC.r8_0 {C : Mm} (h : SC C) : mR C 8 0 = some 9 := h.2 8 0 9 (by decide) rfl
theorem SC.r8_1 {C : Mm} (h : SC C) : mR C 8 1 = some 16 := h.2 8 1 16 (by decide) rfl
theorem SC.r8_3 {C : Mm} (h : SC C) : mR C 8 3 = some 17 := h.2 8 3 17 (by decide) rfl
theorem SC.r8_7 {C : Mm} (h : SC C) : mR C 8 7 = some 18 := h.2 8 7 18 (by decide) rfl
theorem SC.r8_9 {C : Mm} (h : SC C) : mR C 8 9 = some 19 := h.2 8 9 19 (by decide) rfl
theorem SC.r8_10 {C : Mm} (h : SC C) : mR C 8 10 = some 30 := h.2 8 10 30 (by decide) rfl
theorem SC.r8_11 {C : Mm} (h : SC C) : mR C 8 11 = some 33 := h.2 8 11 33 (by decide) rfl
theorem SC.r8_12 {C : Mm} (h : SC C) : mR C 8 12 = some 37 := h.2 8 12 37 (by decide) rfl
theorem SC.r8_15 {C : Mm} (h : SC C) : mR C 8 15 = some 38 := h.2 8 15 38 (by decide) rfl
theorem SC.r9_0 {C : Mm} (h : SC C) : mR C 9 0 = some 10 := h.2 9 0 10 (by decide) rfl
theorem SC.r9_1 {C : Mm} (h : SC C) : mR C 9 1 = some 11 := h.2 9 1 11 (by decide) rfl
theorem SC.r9_2 {C : Mm} (h : SC C) : mR C 9 2 = some 12 := h.2 9 2 12 (by decide) rfl
theorem SC.r9_3 {C : Mm} (h : SC C) : mR C 9 3 = some 13 := h.2 9 3 13 (by decide) rfl
theorem SC.r9_4 {C : Mm} (h : SC C) : mR C 9 4 = some 14 := h.2 9 4 14 (by decide) rfl
theorem SC.r9_5 {C : Mm} (h : SC C) : mR C 9 5 = some 15 := h.2 9 5 15 (by decide) rfl
theorem SC.r19_0 {C : Mm} (h : SC C) : mR C 19 0 = some 20 := h.2 19 0 20 (by decide) rfl
theorem SC.r19_1 {C : Mm} (h : SC C) : mR C 19 1 = some 28 := h.2 19 1 28 (by decide) rfl
theorem SC.r19_2 {C : Mm} (h : SC C) : mR C 19 2 = some 29 := h.2 19 2 29 (by decide) rfl
theorem SC.r20_0 {C : Mm} (h : SC C) : mR C 20 0 = some 21 := h.2 20 0 21 (by decide) rfl
theorem SC.r20_1 {C : Mm} (h : SC C) : mR C 20 1 = some 22 := h.2 20 1 22 (by decide) rfl
theorem SC.r20_2 {C : Mm} (h : SC C) : mR C 20 2 = some 23 := h.2 20 2 23 (by decide) rfl
theorem SC.r20_3 {C : Mm} (h : SC C) : mR C 20 3 = some 24 := h.2 20 3 24 (by decide) rfl
theorem SC.r20_6 {C : Mm} (h : SC C) : mR C 20 6 = some 25 := h.2 20 6 25 (by decide) rfl
theorem SC.r20_7 {C : Mm} (h : SC C) : mR C 20 7 = some 26 := h.2 20 7 26 (by decide) rfl
theorem SC.r20_8 {C : Mm} (h : SC C) : mR C 20 8 = some 27 := h.2 20 8 27 (by decide) rfl
theorem SC.r30_0 {C : Mm} (h : SC C) : mR C 30 0 = some 31 := h.2 30 0 31 (by decide) rfl
theorem SC.r30_1 {C : Mm} (h : SC C) : mR C 30 1 = some 32 := h.2 30 1 32 (by decide) rfl
theorem SC.r33_0 {C : Mm} (h : SC C) : mR C 33 0 = some 34 := h.2 33 0 34 (by decide) rfl
theorem SC.r33_1 {C : Mm} (h : SC C) : mR C 33 1 = some 35 := h.2 33 1 35 (by decide) rfl
theorem SC.r33_2 {C : Mm} (h : SC C) : mR C 33 2 = some 36 := h.2 33 2 36 (by decide) rfl
theorem SR.r39_3 {R : Mm} (h : SR R) : mR R 39 3 = some 40 := h.2.1 3
theorem SR.r39_4 {R : Mm} (h : SR R) : mR R 39 4 = some 41 := h.2.1 4
theorem SR.r39_5 {R : Mm} (h : SR R) : mR R 39 5 = some 42 := h.2.1 5
theorem SR.r39_6 {R : Mm} (h : SR R) : mR R 39 6 = some 43 := h.2.1 6
theorem SR.r39_7 {R : Mm} (h : SR R) : mR R 39 7 = some 44 := h.2.1 7
theorem SR.r39_8 {R : Mm} (h : SR R) : mR R 39 8 = some 45 := h.2.1 8
theorem SR.r39_10 {R : Mm} (h : SR R) : mR R 39 10 = some 46 := h.2.1 10
theorem SR.r39_11 {R : Mm} (h : SR R) : mR R 39 11 = some 47 := h.2.1 11
theorem SR.r39_12 {R : Mm} (h : SR R) : mR R 39 12 = some 48 := h.2.1 12
theorem SR.r39_13 {R : Mm} (h : SR R) : mR R 39 13 = some 49 := h.2.1 13
theorem SR.r39_14 {R : Mm} (h : SR R) : mR R 39 14 = some 50 := h.2.1 14
theorem SR.r39_15 {R : Mm} (h : SR R) : mR R 39 15 = some 51 := h.2.1 15
theorem SR.r39_16 {R : Mm} (h : SR R) : mR R 39 16 = some 52 := h.2.1 16
theorem SR.r39_17 {R : Mm} (h : SR R) : mR R 39 17 = some 53 := h.2.1 17
theorem SR.r39_25 {R : Mm} (h : SR R) : mR R 39 25 = some 54 := h.2.1 25
theorem SR.r39_26 {R : Mm} (h : SR R) : mR R 39 26 = some 55 := h.2.1 26
theorem SR.r39_27 {R : Mm} (h : SR R) : mR R 39 27 = some 56 := h.2.1 27
theorem SR.r39_28 {R : Mm} (h : SR R) : mR R 39 28 = some 57 := h.2.1 28
theorem SR.r39_29 {R : Mm} (h : SR R) : mR R 39 29 = some 58 := h.2.1 29
theorem SR.r39_30 {R : Mm} (h : SR R) : mR R 39 30 = some 59 := h.2.1 30
theorem SR.r39_31 {R : Mm} (h : SR R) : mR R 39 31 = some 60 := h.2.1 31
theorem SR.r39_32 {R : Mm} (h : SR R) : mR R 39 32 = some 61 := h.2.1 32
theorem SR.r39_33 {R : Mm} (h : SR R) : mR R 39 33 = some 62 := h.2.1 33
theorem SR.r39_34 {R : Mm} (h : SR R) : mR R 39 34 = some 63 := h.2.1 34
theorem SR.r39_35 {R : Mm} (h : SR R) : mR R 39 35 = some 64 := h.2.1 35
theorem SR.r39_36 {R : Mm} (h : SR R) : mR R 39 36 = some 65 := h.2.1 36
theorem SR.r39_38 {R : Mm} (h : SR R) : mR R 39 38 = some 66 := h.2.1 38
theorem SR.r39_39 {R : Mm} (h : SR R) : mR R 39 39 = some 67 := h.2.1 39
theorem SR.r39_40 {R : Mm} (h : SR R) : mR R 39 40 = some 68 := h.2.1 40
theorem SR.r39_41 {R : Mm} (h : SR R) : mR R 39 41 = some 69 := h.2.1 41
theorem SR.r39_42 {R : Mm} (h : SR R) : mR R 39 42 = some 70 := h.2.1 42
theorem SR.r39_43 {R : Mm} (h : SR R) : mR R 39 43 = some 71 := h.2.1 43
theorem SR.r39_44 {R : Mm} (h : SR R) : mR R 39 44 = some 72 := h.2.1 44
theorem SR.r39_45 {R : Mm} (h : SR R) : mR R 39 45 = some 73 := h.2.1 45
theorem SR.r39_47 {R : Mm} (h : SR R) : mR R 39 47 = some 74 := h.2.1 47
theorem SR.r39_48 {R : Mm} (h : SR R) : mR R 39 48 = some 75 := h.2.1 48
theorem SR.r39_49 {R : Mm} (h : SR R) : mR R 39 49 = some 76 := h.2.1 49
theorem SR.r39_50 {R : Mm} (h : SR R) : mR R 39 50 = some 77 := h.2.1 50
theorem SR.r39_51 {R : Mm} (h : SR R) : mR R 39 51 = some 78 := h.2.1 51
theorem SR.r39_53 {R : Mm} (h : SR R) : mR R 39 53 = some 79 := h.2.1 53
theorem SR.r39_66 {R : Mm} (h : SR R) : mR R 39 66 = some 80 := h.2.1 66
theorem SR.r39_67 {R : Mm} (h : SR R) : mR R 39 67 = some 81 := h.2.1 67
theorem SR.r39_68 {R : Mm} (h : SR R) : mR R 39 68 = some 82 := h.2.1 68
theorem SR.r39_74 {R : Mm} (h : SR R) : mR R 39 74 = some 83 := h.2.1 74
theorem SR.r39_75 {R : Mm} (h : SR R) : mR R 39 75 = some 84 := h.2.1 75
theorem SR.r39_76 {R : Mm} (h : SR R) : mR R 39 76 = some 85 := h.2.1 76
theorem SR.r39_77 {R : Mm} (h : SR R) : mR R 39 77 = some 86 := h.2.1 77
theorem SR.r39_78 {R : Mm} (h : SR R) : mR R 39 78 = some 87 := h.2.1 78
theorem SR.r39_79 {R : Mm} (h : SR R) : mR R 39 79 = some 88 := h.2.1 79
theorem SR.r39_80 {R : Mm} (h : SR R) : mR R 39 80 = some 89 := h.2.1 80
theorem SR.r39_81 {R : Mm} (h : SR R) : mR R 39 81 = some 90 := h.2.1 81
theorem SR.r39_82 {R : Mm} (h : SR R) : mR R 39 82 = some 91 := h.2.1 82
theorem SR.r39_83 {R : Mm} (h : SR R) : mR R 39 83 = some 92 := h.2.1 83
theorem SR.r39_84 {R : Mm} (h : SR R) : mR R 39 84 = some 93 := h.2.1 84
theorem SR.r39_85 {R : Mm} (h : SR R) : mR R 39 85 = some 94 := h.2.1 85
theorem SR.r39_86 {R : Mm} (h : SR R) : mR R 39 86 = some 95 := h.2.1 86
theorem SR.r39_87 {R : Mm} (h : SR R) : mR R 39 87 = some 96 := h.2.1 87
theorem SR.r39_88 {R : Mm} (h : SR R) : mR R 39 88 = some 97 := h.2.1 88
theorem SR.r39_89 {R : Mm} (h : SR R) : mR R 39 89 = some 98 := h.2.1 89
theorem SR.r39_90 {R : Mm} (h : SR R) : mR R 39 90 = some 99 := h.2.1 90
theorem SR.r39_91 {R : Mm} (h : SR R) : mR R 39 91 = some 100 := h.2.1 91
theorem SR.r39_92 {R : Mm} (h : SR R) : mR R 39 92 = some 101 := h.2.1 92
theorem SR.r39_93 {R : Mm} (h : SR R) : mR R 39 93 = some 102 := h.2.1 93
theorem SR.r39_94 {R : Mm} (h : SR R) : mR R 39 94 = some 103 := h.2.1 94
theorem SR.r39_95 {R : Mm} (h : SR R) : mR R 39 95 = some 104 := h.2.1 95
theorem SR.r39_96 {R : Mm} (h : SR R) : mR R 39 96 = some 105 := h.2.1 96
theorem SR.r39_97 {R : Mm} (h : SR R) : mR R 39 97 = some 106 := h.2.1 97
theorem SR.r39_98 {R : Mm} (h : SR R) : mR R 39 98 = some 107 := h.2.1 98
theorem SR.r39_99 {R : Mm} (h : SR R) : mR R 39 99 = some 108 := h.2.1 99
theorem SR.r39_100 {R : Mm} (h : SR R) : mR R 39 100 = some 109 := h.2.1 100
theorem SR.r39_101 {R : Mm} (h : SR R) : mR R 39 101 = some 110 := h.2.1 101
theorem SR.r39_102 {R : Mm} (h : SR R) : mR R 39 102 = some 111 := h.2.1 102
theorem SR.r39_103 {R : Mm} (h : SR R) : mR R 39 103 = some 112 := h.2.1 103
theorem SR.r39_104 {R : Mm} (h : SR R) : mR R 39 104 = some 113 := h.2.1 104
theorem SR.r39_105 {R : Mm} (h : SR R) : mR R 39 105 = some 114 := h.2.1 105
theorem SR.r39_106 {R : Mm} (h : SR R) : mR R 39 106 = some 115 := h.2.1 106
theorem SC.ko {C : Mm} (h : SC C) {a c n : Nat} (e : (decide (8 ≤ a) && decide (a < 39) && decide (KT a = (c, n))) = true) : kO C a c n = true := by
  simp only [Bool.and_eq_true, decide_eq_true_eq] at e
  exact kO_t ((h.1 a e.1.1 e.1.2).trans e.2)
theorem SR.ko {C : Mm} (h : SR C) {a c n : Nat} (e : (decide (39 ≤ a) && decide (a < 116) && decide (KT a = (c, n))) = true) : kO C a c n = true := by
  simp only [Bool.and_eq_true, decide_eq_true_eq] at e
  exact kO_t ((h.1 a e.1.1 e.1.2).trans e.2)
theorem SC.kt {C : Mm} (h : SC C) {a c : Nat} (e : (decide (8 ≤ a) && decide (a < 39) && decide ((KT a).1 = c)) = true) : kT C a c = true := by
  simp only [Bool.and_eq_true, decide_eq_true_eq] at e
  exact decide_eq_true (by rw [h.1 a e.1.1 e.1.2]; exact e.2)
theorem SR.kt {C : Mm} (h : SR C) {a c : Nat} (e : (decide (39 ≤ a) && decide (a < 116) && decide ((KT a).1 = c)) = true) : kT C a c = true := by
  simp only [Bool.and_eq_true, decide_eq_true_eq] at e
  exact decide_eq_true (by rw [h.1 a e.1.1 e.1.2]; exact e.2)
theorem SC.ka {C : Mm} (h : SC C) {a c n : Nat} {i : Int32} (e : (decide (8 ≤ a) && decide (a < 39) && decide (KT a = (c, n))) = true) (h0 : 0 ≤ i) (h1 : ix i < n) : kA C a c i = true := by
  simp only [Bool.and_eq_true, decide_eq_true_eq] at e
  exact kA_t ((h.1 a e.1.1 e.1.2).trans e.2) h0 h1
theorem SR.ka {C : Mm} (h : SR C) {a c n : Nat} {i : Int32} (e : (decide (39 ≤ a) && decide (a < 116) && decide (KT a = (c, n))) = true) (h0 : 0 ≤ i) (h1 : ix i < n) : kA C a c i = true := by
  simp only [Bool.and_eq_true, decide_eq_true_eq] at e
  exact kA_t ((h.1 a e.1.1 e.1.2).trans e.2) h0 h1
theorem SC.sm {C C' : Mm} (h : SC C) (hk : mK C' = mK C) (hr : mR C' = mR C) : SC C' := ⟨fun a h1 h2 => by rw [hk]; exact h.1 a h1 h2, fun a k b h1 h2 => by rw [hr]; exact h.2 a k b h1 h2⟩
theorem SR.sm {C C' : Mm} (h : SR C) (hk : mK C' = mK C) (hr : mR C' = mR C) : SR C' := ⟨fun a h1 h2 => by rw [hk]; exact h.1 a h1 h2, fun k => by rw [hr]; exact h.2.1 k, fun a k h1 h2 => by rw [hr]; exact h.2.2 a k h1 h2⟩
/-! places by role: injective, behind all static places -/
def Ad (ad : Nat → Nat → Nat) : Prop := (∀ c i, 116 ≤ ad c i) ∧ ∀ c i c' i', ad c i = ad c' i' → c = c' ∧ i = i'
def pl (ad : Nat → Nat → Nat) (c i : Nat) : Nat := if c < 100 then ad c i else c - 100
def rI (M : Mm) (a k : Nat) : Int32 := if a < mZ M then mI M a k else 0
def rL (M : Mm) (a k : Nat) : Int64 := if a < mZ M then mL M a k else 0

/-- role c, number i, field or element k: the cell of the reference, as (place, element); (0, 0): none -/
def cm (c i k : Nat) : Nat × Nat := match c with
  | 1 => match k with
    | 0 => (46, i)
    | 4 => (47, i)
    | 5 => (48, i)
    | 6 => (49, i)
    | 7 => (50, i)
    | 8 => (51, i)
    | _ => (0, 0)
  | 4 => match k with
    | 8 => (54, i)
    | 11 => (56, i)
    | 12 => (58, i)
    | 13 => (57, i)
    | _ => (0, 0)
  | 10 => match k with
    | 0 => (83, i)
    | 4 => (87, i)
    | 5 => (88, i)
    | 6 => (89, i)
    | 8 => (84, i)
    | 9 => (85, i)
    | 10 => (86, i)
    | _ => (0, 0)
  | 14 => match k with
    | 0 => (92, i)
    | 1 => (97, i)
    | 2 => (93, i)
    | 3 => (94, i)
    | 4 => (95, i)
    | _ => (0, 0)
  | 15 => match k with
    | 0 => (98, i)
    | 1 => (99, i)
    | 2 => (100, i)
    | 3 => (101, i)
    | 4 => (102, i)
    | 12 => (103, i)
    | 13 => (104, i)
    | 5 => (107, 2 * i)
    | 7 => (107, 2 * i + 1)
    | 6 => (108, 2 * i)
    | 8 => (108, 2 * i + 1)
    | _ => (0, 0)
  | 16 => match k with
    | 0 => (68, i)
    | _ => (0, 0)
  | 2 => if k < 4 then (53, 4 * i + k) else (0, 0)
  | 3 => if k < 16 then (112, 16 * i + k) else (0, 0)
  | 108 => match i with
    | 0 => match k with
      | 16 => (39, 0)
      | 17 => (39, 1)
      | 2 => (39, 9)
      | 4 => (39, 22)
      | 5 => (39, 23)
      | 6 => (39, 24)
      | 8 => (39, 54)
      | 13 => (39, 70)
      | _ => (0, 0)
    | _ => (0, 0)
  | 109 => match i with
    | 0 => match k with
      | 6 => (39, 2)
      | _ => (0, 0)
    | _ => (0, 0)
  | 119 => match i with
    | 0 => match k with
      | 3 => (39, 37)
      | 4 => (39, 55)
      | _ => (0, 0)
    | _ => (0, 0)
  | 130 => match i with
    | 0 => match k with
      | 2 => (39, 71)
      | 3 => (39, 21)
      | _ => (0, 0)
    | _ => (0, 0)
  | 110 => match i with
    | 0 => (40, k)
    | _ => (0, 0)
  | 111 => match i with
    | 0 => (41, k)
    | _ => (0, 0)
  | 112 => match i with
    | 0 => (42, k)
    | _ => (0, 0)
  | 113 => match i with
    | 0 => (43, k)
    | _ => (0, 0)
  | 118 => match i with
    | 0 => (79, k)
    | _ => (0, 0)
  | 131 => match i with
    | 0 => (91, k)
    | _ => (0, 0)
  | _ => (0, 0)
/-- and back -/
def ci (a j : Nat) : Nat × Nat × Nat := match a with
  | 39 => match j with
    | 0 => (108, 0, 16)
    | 1 => (108, 0, 17)
    | 2 => (109, 0, 6)
    | 9 => (108, 0, 2)
    | 22 => (108, 0, 4)
    | 23 => (108, 0, 5)
    | 24 => (108, 0, 6)
    | 54 => (108, 0, 8)
    | 71 => (130, 0, 2)
    | 21 => (130, 0, 3)
    | 37 => (119, 0, 3)
    | 55 => (119, 0, 4)
    | 70 => (108, 0, 13)
    | _ => (0, 0, 0)
  | 46 => (1, j, 0)
  | 47 => (1, j, 4)
  | 48 => (1, j, 5)
  | 49 => (1, j, 6)
  | 50 => (1, j, 7)
  | 51 => (1, j, 8)
  | 54 => (4, j, 8)
  | 56 => (4, j, 11)
  | 58 => (4, j, 12)
  | 57 => (4, j, 13)
  | 83 => (10, j, 0)
  | 87 => (10, j, 4)
  | 88 => (10, j, 5)
  | 89 => (10, j, 6)
  | 84 => (10, j, 8)
  | 85 => (10, j, 9)
  | 86 => (10, j, 10)
  | 92 => (14, j, 0)
  | 97 => (14, j, 1)
  | 93 => (14, j, 2)
  | 94 => (14, j, 3)
  | 95 => (14, j, 4)
  | 98 => (15, j, 0)
  | 99 => (15, j, 1)
  | 100 => (15, j, 2)
  | 101 => (15, j, 3)
  | 102 => (15, j, 4)
  | 103 => (15, j, 12)
  | 104 => (15, j, 13)
  | 68 => (16, j, 0)
  | 107 => (15, j / 2, if j % 2 = 0 then 5 else 7)
  | 108 => (15, j / 2, if j % 2 = 0 then 6 else 8)
  | 53 => (2, j / 4, j % 4)
  | 112 => (3, j / 16, j % 16)
  | 40 => (110, 0, j)
  | 41 => (111, 0, j)
  | 42 => (112, 0, j)
  | 43 => (113, 0, j)
  | 79 => (118, 0, j)
  | 91 => (131, 0, j)
  | _ => (0, 0, 0)
def lm (c i k : Nat) : Nat × Nat := match c with
  | 1 => match k with
    | 3 => (52, i)
    | _ => (0, 0)
  | 130 => match i with
    | 0 => match k with
      | 4 => (39, 18)
      | 5 => (39, 19)
      | 6 => (39, 20)
      | _ => (0, 0)
    | _ => (0, 0)
  | _ => (0, 0)
def li (a j : Nat) : Nat × Nat × Nat := match a with
  | 52 => (1, j, 3)
  | 39 => match j with
    | 18 => (130, 0, 4)
    | 19 => (130, 0, 5)
    | 20 => (130, 0, 6)
    | _ => (0, 0, 0)
  | _ => (0, 0, 0)
theorem cm_ci (c i k : Nat) (h : (cm c i k).1 ≠ 0) : ci (cm c i k).1 (cm c i k).2 = (c, i, k) := by
  revert h
  unfold cm
  repeat' split
  all_goals first
    | (intro h; exact absurd rfl h)
    | (intro _; rfl)
    | (intro _; simp only [ci, Prod.mk.injEq, true_and]; omega)
    | (intro _; simp only [ci, Prod.mk.injEq, true_and]; refine ⟨by omega, ?_⟩; rw [if_pos (by omega)])
    | (intro _; simp only [ci, Prod.mk.injEq, true_and]; refine ⟨by omega, ?_⟩; rw [if_neg (by omega)])
theorem lm_li (c i k : Nat) (h : (lm c i k).1 ≠ 0) : li (lm c i k).1 (lm c i k).2 = (c, i, k) := by
  revert h
  unfold lm
  repeat' split
  all_goals first
    | (intro h; exact absurd rfl h)
    | (intro _; rfl)
def Dt (ad : Nat → Nat → Nat) (C R : Mm) : Prop := ∀ c i k, (cm c i k).1 ≠ 0 → rI C (pl ad c i) k = mI R (cm c i k).1 (cm c i k).2
def DL (ad : Nat → Nat → Nat) (C R : Mm) : Prop := ∀ c i k, (lm c i k).1 ≠ 0 → rL C (pl ad c i) k = mL R (lm c i k).1 (lm c i k).2
theorem pl_inj {ad : Nat → Nat → Nat} (h : Ad ad) {c i c' i' : Nat} (hc : (cm c i 0).1 ≠ 0 ∨ c < 100 ∨ (c < 139 ∧ i = 0)) (hc' : c' < 100 ∨ (c' < 139 ∧ i' = 0)) (hi : c < 100 ∨ (c < 139 ∧ i = 0)) (e : pl ad c i = pl ad c' i') : c = c' ∧ i = i' := by
  unfold pl at e
  have q1 := h.1 c i
  have q2 := h.1 c' i'
  split at e <;> split at e
  · exact h.2 _ _ _ _ e
  · omega
  · omega
  · omega
theorem cm_rng (c i k : Nat) (h : (cm c i k).1 ≠ 0) : c < 100 ∨ (c < 139 ∧ i = 0) := by
  revert h
  unfold cm
  repeat' split
  all_goals first
    | (intro h; exact absurd rfl h)
    | (intro _; omega)
theorem lm_rng (c i k : Nat) (h : (lm c i k).1 ≠ 0) : c < 100 ∨ (c < 139 ∧ i = 0) := by
  revert h
  unfold lm
  repeat' split
  all_goals first
    | (intro h; exact absurd rfl h)
    | (intro _; omega)
theorem pl_ij {ad : Nat → Nat → Nat} (h : Ad ad) {c i c' i' : Nat} (hc : c < 100 ∨ (c < 139 ∧ i = 0)) (hc' : c' < 100 ∨ (c' < 139 ∧ i' = 0)) (e : pl ad c i = pl ad c' i') : c = c' ∧ i = i' := pl_inj h (Or.inr hc) hc' hc e
section DT
variable {ad : Nat → Nat → Nat} {C R : Mm}
theorem rI_sI {M : Mm} {a k : Nat} {v : Int32} {b j : Nat} (h : a < mZ M) : rI (sI M a k v) b j = if b = a ∧ j = k then v else rI M b j := by
  unfold rI
  rw [mZ_sI, mI_sI]
  by_cases e : b = a ∧ j = k
  · rw [if_pos e, if_pos e, if_pos (by rw [e.1]; exact h)]
  · rw [if_neg e, if_neg e]
theorem rL_sL {M : Mm} {a k : Nat} {v : Int64} {b j : Nat} (h : a < mZ M) : rL (sL M a k v) b j = if b = a ∧ j = k then v else rL M b j := by
  unfold rL
  rw [mZ_sL, mL_sL]
  by_cases e : b = a ∧ j = k
  · rw [if_pos e, if_pos e, if_pos (by rw [e.1]; exact h)]
  · rw [if_neg e, if_neg e]
theorem rI_nw {M : Mm} {c n b j : Nat} : rI (nw M c n) b j = rI M b j := by
  unfold rI
  rw [mZ_nw, mI_nw]
  by_cases e : b = mZ M
  · rw [if_pos e]; subst e; rw [if_pos (Nat.lt_succ_self _), if_neg (Nat.lt_irrefl _)]
  · rw [if_neg e]
    by_cases q : b < mZ M
    · rw [if_pos q, if_pos (by omega)]
    · rw [if_neg q, if_neg (by omega)]
theorem rL_nw {M : Mm} {c n b j : Nat} : rL (nw M c n) b j = rL M b j := by
  unfold rL
  rw [mZ_nw, mL_nw]
  by_cases e : b = mZ M
  · rw [if_pos e]; subst e; rw [if_pos (Nat.lt_succ_self _), if_neg (Nat.lt_irrefl _)]
  · rw [if_neg e]
    by_cases q : b < mZ M
    · rw [if_pos q, if_pos (by omega)]
    · rw [if_neg q, if_neg (by omega)]
/-- a cell of the class is the reference's -/
theorem Dt.ld (h : Dt ad C R) (c i k : Nat) {a j : Nat} (e : cm c i k = (a, j)) (ha : a ≠ 0) (hz : pl ad c i < mZ C) : mI C (pl ad c i) k = mI R a j := by
  have := h c i k (by rw [e]; exact ha)
  rw [e] at this
  unfold rI at this
  rw [if_pos hz] at this
  exact this
theorem DL.ld (h : DL ad C R) (c i k : Nat) {a j : Nat} (e : lm c i k = (a, j)) (ha : a ≠ 0) (hz : pl ad c i < mZ C) : mL C (pl ad c i) k = mL R a j := by
  have := h c i k (by rw [e]; exact ha)
  rw [e] at this
  unfold rL at this
  rw [if_pos hz] at this
  exact this
/-- both written -/
theorem Dt.st (hA : Ad ad) (h : Dt ad C R) (c i k : Nat) {a j : Nat} {v : Int32} (e : cm c i k = (a, j)) (ha : a ≠ 0) (hz : pl ad c i < mZ C) : Dt ad (sI C (pl ad c i) k v) (sI R a j v) := by
  intro c' i' k' h'
  rw [rI_sI hz, mI_sI]
  by_cases q : (c', i', k') = (c, i, k)
  · obtain ⟨rfl, rfl, rfl⟩ : c' = c ∧ i' = i ∧ k' = k := by simpa using q
    rw [if_pos ⟨rfl, rfl⟩, e, if_pos ⟨rfl, rfl⟩]
  · have e1 := cm_ci c' i' k' h'
    have e2 := cm_ci c i k (by rw [e]; exact ha)
    rw [e] at e2
    have hne : ¬ ((cm c' i' k').1 = a ∧ (cm c' i' k').2 = j) := fun x => q (by rw [← e1, x.1, x.2, e2])
    rw [if_neg hne, if_neg (fun x => ?_)]
    · exact h c' i' k' h'
    · obtain ⟨y1, y2⟩ := pl_ij hA (cm_rng c' i' k' h') (cm_rng c i k (by rw [e]; exact ha)) x.1
      exact q (by rw [y1, y2, x.2])
theorem DL.st (hA : Ad ad) (h : DL ad C R) (c i k : Nat) {a j : Nat} {v : Int64} (e : lm c i k = (a, j)) (ha : a ≠ 0) (hz : pl ad c i < mZ C) : DL ad (sL C (pl ad c i) k v) (sL R a j v) := by
  intro c' i' k' h'
  rw [rL_sL hz, mL_sL]
  by_cases q : (c', i', k') = (c, i, k)
  · obtain ⟨rfl, rfl, rfl⟩ : c' = c ∧ i' = i ∧ k' = k := by simpa using q
    rw [if_pos ⟨rfl, rfl⟩, e, if_pos ⟨rfl, rfl⟩]
  · have e1 := lm_li c' i' k' h'
    have e2 := lm_li c i k (by rw [e]; exact ha)
    rw [e] at e2
    have hne : ¬ ((lm c' i' k').1 = a ∧ (lm c' i' k').2 = j) := fun x => q (by rw [← e1, x.1, x.2, e2])
    rw [if_neg hne, if_neg (fun x => ?_)]
    · exact h c' i' k' h'
    · obtain ⟨y1, y2⟩ := pl_ij hA (lm_rng c' i' k' h') (lm_rng c i k (by rw [e]; exact ha)) x.1
      exact q (by rw [y1, y2, x.2])
/-- a cell of the class alone -/
theorem Dt.stc (hA : Ad ad) (h : Dt ad C R) (c i k : Nat) {v : Int32} (e : cm c i k = (0, 0)) (hr : c < 100 ∨ (c < 139 ∧ i = 0)) (hz : pl ad c i < mZ C) : Dt ad (sI C (pl ad c i) k v) R := by
  intro c' i' k' h'
  rw [rI_sI hz, if_neg (fun x => ?_)]
  · exact h c' i' k' h'
  · obtain ⟨y1, y2⟩ := pl_ij hA (cm_rng c' i' k' h') hr x.1
    rw [y1, y2, x.2, e] at h'
    exact h' rfl
/-- a cell of the reference alone -/
theorem Dt.str (h : Dt ad C R) (a j : Nat) {v : Int32} (e : (ci a j).1 = 0) : Dt ad C (sI R a j v) := by
  intro c i k h'
  rw [mI_sI, if_neg (fun x => ?_)]
  · exact h c i k h'
  · have := cm_ci c i k h'
    rw [x.1, x.2] at this
    rw [this] at e
    have e : c = 0 := e
    subst e
    exact h' rfl
theorem DL.str (h : DL ad C R) (a j : Nat) {v : Int64} (e : (li a j).1 = 0) : DL ad C (sL R a j v) := by
  intro c i k h'
  rw [mL_sL, if_neg (fun x => ?_)]
  · exact h c i k h'
  · have := lm_li c i k h'
    rw [x.1, x.2] at this
    rw [this] at e
    have e : c = 0 := e
    subst e
    exact h' rfl
theorem DL.stc (hA : Ad ad) (h : DL ad C R) (c i k : Nat) {v : Int64} (e : lm c i k = (0, 0)) (hr : c < 100 ∨ (c < 139 ∧ i = 0)) (hz : pl ad c i < mZ C) : DL ad (sL C (pl ad c i) k v) R := by
  intro c' i' k' h'
  rw [rL_sL hz, if_neg (fun x => ?_)]
  · exact h c' i' k' h'
  · obtain ⟨y1, y2⟩ := pl_ij hA (lm_rng c' i' k' h') hr x.1
    rw [y1, y2, x.2, e] at h'
    exact h' rfl
end DT
