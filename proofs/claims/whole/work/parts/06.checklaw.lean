/-! THE CHECK OF THE LAW's TABLE -/
theorem mm_k104_0 : (((mm_t104.drop 0).take 64).all (mm_chk 104)) = true := by decide +kernel
theorem mm_k104_64 : (((mm_t104.drop 64).take 64).all (mm_chk 104)) = true := by decide +kernel
theorem mm_k104_128 : (((mm_t104.drop 128).take 64).all (mm_chk 104)) = true := by decide +kernel
theorem mm_k104_192 : (((mm_t104.drop 192).take 64).all (mm_chk 104)) = true := by decide +kernel
theorem mm_k104_256 : (((mm_t104.drop 256).take 64).all (mm_chk 104)) = true := by decide +kernel
theorem mm_k104_320 : (((mm_t104.drop 320).take 64).all (mm_chk 104)) = true := by decide +kernel
theorem mm_k104_384 : (((mm_t104.drop 384).take 64).all (mm_chk 104)) = true := by decide +kernel
theorem mm_k104_448 : (((mm_t104.drop 448).take 64).all (mm_chk 104)) = true := by decide +kernel
theorem mm_k104_512 : (((mm_t104.drop 512).take 64).all (mm_chk 104)) = true := by decide +kernel
theorem mm_k104_576 : (((mm_t104.drop 576).take 64).all (mm_chk 104)) = true := by decide +kernel
theorem mm_k104_640 : (((mm_t104.drop 640).take 64).all (mm_chk 104)) = true := by decide +kernel
theorem mm_k104_704 : (((mm_t104.drop 704).take 64).all (mm_chk 104)) = true := by decide +kernel
theorem mm_cut {α : Type} (f : α → Bool) (n : Nat) : ∀ (l : List α) (k : Nat), ((l.take k).all f) = true → ((l.drop k).all f) = true → (l.all f) = true := fun l k h1 h2 => by
  rw [← List.take_append_drop k l, List.all_append, h1, h2]; rfl
theorem mm_k104 : (mm_t104.all (mm_chk 104)) = true := by
  have e : ∀ a b, ((mm_t104.drop (a + b)).all (mm_chk 104)) = true → (((mm_t104.drop a).take b).all (mm_chk 104)) = true → ((mm_t104.drop a).all (mm_chk 104)) = true := fun a b h1 h2 => mm_cut _ 0 _ b h2 (by rw [List.drop_drop]; exact h1)
  have z : ((mm_t104.drop 768).all (mm_chk 104)) = true := by decide +kernel
  have z := e 704 64 z mm_k104_704
  have z := e 640 64 z mm_k104_640
  have z := e 576 64 z mm_k104_576
  have z := e 512 64 z mm_k104_512
  have z := e 448 64 z mm_k104_448
  have z := e 384 64 z mm_k104_384
  have z := e 320 64 z mm_k104_320
  have z := e 256 64 z mm_k104_256
  have z := e 192 64 z mm_k104_192
  have z := e 128 64 z mm_k104_128
  have z := e 64 64 z mm_k104_64
  have z := e 0 64 z mm_k104_0
  exact z
theorem mm_k : ∀ j, (((mm_tabs[j]?).getD []).all (mm_chk j)) = true
  | 0 => mm_k0
  | 1 => mm_k1
  | 2 => mm_k2
  | 3 => mm_k3
  | 4 => mm_k4
  | 5 => mm_k5
  | 6 => mm_k6
  | 7 => mm_k7
  | 8 => mm_k8
  | 9 => mm_k9
  | 10 => mm_k10
  | 11 => mm_k11
  | 12 => mm_k12
  | 13 => mm_k13
  | 14 => mm_k14
  | 15 => mm_k15
  | 16 => mm_k16
  | 17 => mm_k17
  | 18 => mm_k18
  | 19 => mm_k19
  | 20 => mm_k20
  | 21 => mm_k21
  | 22 => mm_k22
  | 23 => mm_k23
  | 24 => mm_k24
  | 25 => mm_k25
  | 26 => mm_k26
  | 27 => mm_k27
  | 28 => mm_k28
  | 29 => mm_k29
  | 30 => mm_k30
  | 31 => mm_k31
  | 32 => mm_k32
  | 33 => mm_k33
  | 34 => mm_k34
  | 35 => mm_k35
  | 36 => mm_k36
  | 37 => mm_k37
  | 38 => mm_k38
  | 39 => mm_k39
  | 40 => mm_k40
  | 41 => mm_k41
  | 42 => mm_k42
  | 43 => mm_k43
  | 44 => mm_k44
  | 45 => mm_k45
  | 46 => mm_k46
  | 47 => mm_k47
  | 48 => mm_k48
  | 49 => mm_k49
  | 50 => mm_k50
  | 51 => mm_k51
  | 52 => mm_k52
  | 53 => mm_k53
  | 54 => mm_k54
  | 55 => mm_k55
  | 56 => mm_k56
  | 57 => mm_k57
  | 58 => mm_k58
  | 59 => mm_k59
  | 60 => mm_k60
  | 61 => mm_k61
  | 62 => mm_k62
  | 63 => mm_k63
  | 64 => mm_k64
  | 65 => mm_k65
  | 66 => mm_k66
  | 67 => mm_k67
  | 68 => mm_k68
  | 69 => mm_k69
  | 70 => mm_k70
  | 71 => mm_k71
  | 72 => mm_k72
  | 73 => mm_k73
  | 74 => mm_k74
  | 75 => mm_k75
  | 76 => mm_k76
  | 77 => mm_k77
  | 78 => mm_k78
  | 79 => mm_k79
  | 80 => mm_k80
  | 81 => mm_k81
  | 82 => mm_k82
  | 83 => mm_k83
  | 84 => mm_k84
  | 85 => mm_k85
  | 86 => mm_k86
  | 87 => mm_k87
  | 88 => mm_k88
  | 89 => mm_k89
  | 90 => mm_k90
  | 91 => mm_k91
  | 92 => mm_k92
  | 93 => mm_k93
  | 94 => mm_k94
  | 95 => mm_k95
  | 96 => mm_k96
  | 97 => mm_k97
  | 98 => mm_k98
  | 99 => mm_k99
  | 100 => mm_k100
  | 101 => mm_k101
  | 102 => mm_k102
  | 103 => mm_k103
  | 104 => mm_k104
  | n + 105 => rfl
