import java.lang.reflect.Method;
import java.util.HashMap;
import java.util.Map;
import java.util.regex.Matcher;
import java.util.regex.Pattern;

/**
 * A sentence of the document, and calls on a new object of which one answers otherwise if it does
 * not hold. The calls are told in rows: "go(0,2)=1 type('a')=3 12*split() undo()". An answer is a
 * number, a sign in quotes, or BAD, STATE, FULL, NONE; a call without one must not be refused; "12*"
 * makes a call twelve times. Beside the calls of the class there are these, which ask for much at once:
 *
 *   tell(TEXT)           feeds a text and takes it
 *   says(l,SIGNS)        the SIGNS of a LINE
 *   stops(l,p p p)       its STOPS;  breaks(l,p p p) its BREAKS;  columns(l,c c c) COLUMNS of its PLACES
 *   rows(p p p)          the PLACES with which the ROWS of the screen begin
 *   cells(r,p p . p)     what cell() answers from COLUMN 0 on, a point where there is none
 *   folds(a-b a-b!)      all FOLDS, those with a ! are SHUT
 *   hidden(l l)          the LINES that are HIDDEN
 *   caretIs(l p g r c)   LINE, PLACE, GOAL, ROW, COLUMN of CARET
 */
final class Sentence {
    private static final int CALL_LIMIT = 512;
    private static final Pattern CALL =
        Pattern.compile("(?:(\\d+)\\*)?(\\w+)\\(([^()]*)\\)(?:=('.'|-?\\w+))?", Pattern.DOTALL);
    private static final Map<String, Method> METHODS = new HashMap<>();

    static {
        for (Method each : FoldedRows.class.getMethods()) {
            METHODS.put(each.getName(), each);
        }
    }

    private final FoldedRows x = new FoldedRows();
    private final String words;
    private int calls = 0;

    private Sentence(String words) {
        this.words = words;
    }

    static void holds(String words, String... rows) {
        Sentence one = new Sentence(words);
        for (String row : rows) {
            one.run(row);
        }
        Due.must(one.calls <= CALL_LIMIT, words + ": " + one.calls + " calls on one object");
    }

    /** That what the last call refuses changes nothing: all that can be seen then is as it is without the call. */
    static void refuses(String words, String rows, String call) {
        Sentence one = new Sentence(words);
        one.run(rows);
        one.run(call);
        Sentence other = new Sentence(words);
        other.run(rows);
        Seen seen = new Seen(one.x);
        String got = seen.all();
        String due = new Seen(other.x).all();
        Due.must(one.calls + seen.calls <= CALL_LIMIT, words + ": " + one.calls + " and " + seen.calls + " calls on one object");
        Due.must(got.equals(due), words + ": behind " + call + " there is\n" + got + "due is\n" + due);
    }

    private void run(String row) {
        Matcher m = CALL.matcher(row);
        int at = 0;
        while (m.find()) {
            Due.must(row.substring(at, m.start()).isBlank(), words + ": what is this? " + row);
            at = m.end();
            int times = m.group(1) == null ? 1 : Integer.parseInt(m.group(1));
            for (int i = 0; i < times; i++) {
                step(m.group(2), m.group(3), m.group(4));
            }
        }
        Due.must(row.substring(at).isBlank(), words + ": what is this? " + row);
    }

    private void step(String name, String told, String want) {
        String call = words + ": " + name + "(" + told + ")";
        int comma = told.indexOf(',');
        String rest = told.substring(comma + 1);
        switch (name) {
            case "tell": judge(call, tell(told), want); break;
            case "says": same(call, says(number(told, comma)), rest); break;
            case "stops": same(call, places(number(told, comma), 2), rest); break;
            case "breaks": same(call, places(number(told, comma), 3), rest); break;
            case "columns": same(call, columns(number(told, comma)), rest); break;
            case "cells": same(call, cells(number(told, comma), rest), rest); break;
            case "rows": same(call, rows(), told); break;
            case "folds": same(call, folds(), told); break;
            case "hidden": same(call, hidden(), told); break;
            case "caretIs": same(call, caret(), told); break;
            default: judge(call, ask(name, told), want); break;
        }
    }

    private void judge(String call, int got, String want) {
        if (want == null) {
            Due.must(got >= 0, call + " was refused: " + got);
        } else {
            Due.due(call, got, value(want));
        }
    }

    private void same(String call, String got, String want) {
        Due.must(got.equals(want), call + " but there is \"" + got + "\"");
    }

    private int ask(String name, String told) {
        calls++;
        String[] parts = told.isEmpty() ? new String[0] : told.split(",", -1);
        Object[] given = new Object[parts.length];
        for (int i = 0; i < parts.length; i++) {
            given[i] = value(parts[i]);
        }
        try {
            return (Integer) METHODS.get(name).invoke(x, given);
        } catch (ReflectiveOperationException e) {
            throw new IllegalStateException(words + ": " + name + "(" + told + ")", e);
        }
    }

    private int number(String told, int comma) {
        return value(told.substring(0, comma));
    }

    private static int value(String word) {
        switch (word) {
            case "BAD": return -1;
            case "STATE": return -2;
            case "FULL": return -3;
            case "NONE": return -4;
            case "MAX": return Integer.MAX_VALUE;
            case "MIN": return Integer.MIN_VALUE;
            default: return word.charAt(0) == '\'' ? word.charAt(1) : Integer.parseInt(word.trim());
        }
    }

    private int tell(String text) {
        calls += text.length() + 1;
        return Due.tell(x, text);
    }

    private String says(int l) {
        StringBuilder out = new StringBuilder();
        calls += 2;
        int n = x.line(l, 0);
        for (int i = 0; i < n; i++) {
            calls++;
            out.append((char) x.sign(l, i));
        }
        return x.sign(l, n) == FoldedRows.NONE ? out.toString() : "more than there is";
    }

    private String places(int l, int what) {
        StringBuilder out = new StringBuilder();
        calls++;
        int n = x.line(l, 0);
        for (int i = 0; i <= n; i++) {
            calls++;
            if (x.at(l, i, what) == 1) {
                out.append(i).append(' ');
            }
        }
        return out.toString().trim();
    }

    private String columns(int l) {
        StringBuilder out = new StringBuilder();
        calls++;
        int n = x.line(l, 0);
        for (int i = 0; i <= n; i++) {
            calls++;
            out.append(x.at(l, i, 1)).append(' ');
        }
        return out.toString().trim();
    }

    private String rows() {
        StringBuilder out = new StringBuilder();
        calls++;
        int n = x.rule(2);
        for (int r = 0; r < n; r++) {
            calls++;
            out.append(x.row(r, 1)).append(' ');
        }
        return out.toString().trim();
    }

    private String cells(int r, String want) {
        StringBuilder out = new StringBuilder();
        int n = want.split(" ").length;
        for (int c = 0; c < n; c++) {
            calls++;
            int got = x.cell(r, c);
            out.append(got == FoldedRows.NONE ? "." : "" + got).append(' ');
        }
        return out.toString().trim();
    }

    private String folds() {
        StringBuilder out = new StringBuilder();
        calls++;
        int n = x.rule(4);
        for (int k = 0; k < n; k++) {
            calls += 3;
            out.append(x.fold(k, 0)).append('-').append(x.fold(k, 1)).append(x.fold(k, 2) == 1 ? "! " : " ");
        }
        return out.toString().trim();
    }

    private String hidden() {
        StringBuilder out = new StringBuilder();
        calls++;
        int n = x.rule(0);
        for (int l = 0; l < n; l++) {
            calls++;
            if (x.line(l, 2) == FoldedRows.NONE) {
                out.append(l).append(' ');
            }
        }
        return out.toString().trim();
    }

    private String caret() {
        StringBuilder out = new StringBuilder();
        for (int what = 0; what < 5; what++) {
            calls++;
            out.append(x.caret(what)).append(' ');
        }
        return out.toString().trim();
    }
}
